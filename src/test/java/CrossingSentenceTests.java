/** Crossings, orders, the devil, loans, luck: each sentence that names a boundary case. */
public final class CrossingSentenceTests extends Sentences {
    private static final int[] NO_PURSE = {-1, MOST + 1, LEAST_INT, MOST_INT};
    private static final int[] NO_BRIDGE = {-1, 5, 9, LEAST_INT, MOST_INT};
    private static final int[] NO_SET = {-1, 32, 33, 512, LEAST_INT, MOST_INT};

    public static void main(String[] args) {
        afters();
        needs();
        evers();
        sames();
        fews();
        backs();
        riches();
        sets();
        quotients();
        orders();
        poors();
        fasts();
        bys();
        swaps();
        devils();
        rates();
        worths();
        stops();
        meets();
        end();
    }

    private static DoubledBridge shut(DoubledBridge x) {
        law(x, "bridge shut;");
        return x;
    }

    private static void afters() {
        says("AFTER n: a PURSE that BECOMES by one BRIDGE n times, one behind the other (n 0: always, as it is).");
        DoubledBridge x = five();
        due("0 times", x.after(0, 20, 0), 20);
        due("0 times, too little to cross", x.after(0, 3, 0), 3);
        due("0 times, nothing", x.after(0, 0, 0), 0);
        due("0 times, the most", x.after(0, MOST, 0), MOST);
        due("once", x.after(0, 20, 1), 32);
        due("twice", x.after(0, 20, 2), 56);
        due("0 times, shut", shut(five()).after(0, 20, 0), 20);

        says("AFTER n (0 to 60). BAD; NONE: it can't be crossed so often.");
        x = road(PLAIN, 1, 1, 0);
        due("60 times", x.after(0, 61, 60), 1);
        due("60 times, to nothing", x.after(0, 60, 60), 0);
        due("not 60 times", x.after(0, 59, 60), NONE);
        due("59 times", x.after(0, 59, 59), 0);
        due("61 times", x.after(0, 100, 61), BAD);
        due("-1 times", x.after(0, 100, -1), BAD);
        due("so many times", x.after(0, 100, MOST_INT), BAD);
        due("so few times", x.after(0, 100, LEAST_INT), BAD);
        x = five();
        for (int purse : NO_PURSE) {
            due("purse " + purse, x.after(0, purse, 0), BAD);
        }
        for (int b : NO_BRIDGE) {
            due("bridge " + b, x.after(b, 20, 0), BAD);
        }
        due("shut", shut(x).after(0, 20, 1), NONE);
    }

    private static void needs() {
        says("NEED by n: the least PURSE with which it can be crossed n times.");
        DoubledBridge x = five();
        int[] least = {4, 8, 2, 4, 5};
        for (int b = 0; b < 5; b++) {
            due("once by " + b, x.need(b, 1), least[b]);
            int often = x.need(b, 60);
            due("with that 60 times by " + b, x.after(b, often, 60) >= 0 ? 1 : 0, 1);
            due("with one less not, by " + b, x.after(b, often - 1, 60), NONE);
        }

        says("NEED by n (0 to 60). BAD; NONE: with no PURSE.");
        x = road(PLAIN, 1, 1, 0, STREAM, 1, 999, 0);
        due("0 times", x.need(0, 0), 0);
        due("60 times", x.need(0, 60), 60);
        due("60 times by a great toll", x.need(1, 60), 59940);
        for (int n : new int[] {-1, 61, LEAST_INT, MOST_INT}) {
            due("n " + n, x.need(0, n), BAD);
        }
        x = five();
        for (int b : NO_BRIDGE) {
            due("bridge " + b, x.need(b, 1), BAD);
        }
        due("shut", shut(x).need(0, 1), NONE);
        due("shut, 0 times", x.need(0, 0), 0);
    }

    private static void evers() {
        says("EVER: the least PURSE of 0 to 9999 with which it can be crossed and that isn't less behind it.");
        DoubledBridge x = five();
        int[] least = {8, 16, 3, 8, 10};
        for (int b = 0; b < 5; b++) {
            due("by " + b, x.ever(b), least[b]);
        }
        for (int kind = 1; kind <= 5; kind++) {
            due("0, without a toll, kind " + kind, road(kind, 1, 0, 6).ever(0), 0);
        }
        x = road(STREAM, 2, 999, 6);
        law(x, "stream dear 999;");
        due("a great one", x.ever(0), 3996);
        due("just as much", x.after(0, 3996, 1), 3996);

        says("EVER. BAD; NONE.");
        due("always less", road(PLAIN, 1, 1, 6).ever(0), NONE);
        x = five();
        for (int b : NO_BRIDGE) {
            due("bridge " + b, x.ever(b), BAD);
        }
        due("shut", shut(x).ever(0), NONE);
    }

    private static void sames() {
        says("SAME: the least of these that is the same behind it.");
        DoubledBridge x = five();
        int[] least = {8, 16, NONE, 8, 10};
        for (int b = 0; b < 5; b++) {
            due("by " + b, x.same(b), least[b]);
        }
        for (int kind = 1; kind <= 5; kind++) {
            due("0, without a toll, kind " + kind, road(kind, 9, 0, 6).same(0), 0);
        }
        due("an odd coin less is not the same", road(EGG, 2, 3, 6).same(0), 4);
        x = road(STREAM, 2, 999, 6);
        law(x, "stream dear 999;");
        due("a great one", x.same(0), 3996);

        says("SAME. BAD; NONE.");
        due("always less", road(PLAIN, 1, 1, 6).same(0), NONE);
        due("less, then more", road(PLAIN, 4, 8, 6).same(0), NONE);
        x = five();
        for (int b : NO_BRIDGE) {
            due("bridge " + b, x.same(b), BAD);
        }
        due("shut", shut(x).same(0), NONE);
    }

    private static void fews() {
        says("FEW: the fewest crossings (0 to 60) behind which a PURSE is a goal or more.");
        DoubledBridge x = five();
        due("0: the goal", x.few(0, 20, 20), 0);
        due("0: more", x.few(0, 20, 19), 0);
        due("0: nothing, to nothing", x.few(0, 0, 0), 0);
        due("1", x.few(0, 20, 21), 1);
        due("1: just that", x.few(0, 20, 32), 1);
        due("2: one more", x.few(0, 20, 33), 2);
        x = road(PLAIN, 2, 999, 0);
        due("many", x.few(0, 1000, MOST), 30);

        says("FEW (goal 0 to 1000000000). BAD; NONE: not in 60, or it can't be crossed so often.");
        x = five();
        due("goal 0", x.few(0, 3, 0), 0);
        due("goal 1000000000", x.few(0, 500000004, MOST), 1);
        for (int goal : NO_PURSE) {
            due("goal " + goal, x.few(0, 20, goal), BAD);
            due("purse " + goal, x.few(0, goal, 20), BAD);
        }
        for (int b : NO_BRIDGE) {
            due("bridge " + b, x.few(b, 20, 20), BAD);
        }
        due("always the same", x.few(0, 8, 9), NONE);
        due("less and less", x.few(0, 7, 8), NONE);
        due("not at all", x.few(0, 3, 4), NONE);
        due("shut", shut(x).few(0, 20, 21), NONE);
        due("shut, 0 crossings", x.few(0, 20, 20), 0);
    }

    private static void backs() {
        says("BACK by n: all PURSES that are a told one AFTER n.");
        DoubledBridge x = road(PLAIN, 1, 999, 0, EGG, 1, 0, 0);
        due("also such as are above 99999", x.back(0, 99999, 6, 0), 105993);
        due("the one", x.back(0, 99999, 6, -1), 1);
        due("two of them", x.back(1, 40, 6, -1), 2);

        says("BACK by n (1 to 6) from a PURSE of 0 to 99999: i = -1 how many, else the i-th of them (0 the least). BAD: also i below"
            + " -1; NONE: there is no i-th.");
        due("the least", x.back(1, 40, 6, 0), 40);
        due("the other", x.back(1, 40, 6, 1), 41);
        due("no third", x.back(1, 40, 6, 2), NONE);
        due("no such", x.back(1, 40, 6, MOST_INT), NONE);
        due("none: how many", x.back(1, 41, 1, -1), 0);
        due("none: the least", x.back(1, 41, 1, 0), NONE);
        due("purse 0", x.back(1, 0, 1, -1), 2);
        due("purse 0: the least", x.back(1, 0, 1, 0), 0);
        due("purse 99999", x.back(0, 99999, 1, 0), 100998);
        for (int purse : new int[] {-1, 100000, MOST, LEAST_INT, MOST_INT}) {
            due("purse " + purse, x.back(0, purse, 1, -1), BAD);
        }
        for (int n : new int[] {0, 7, -1, LEAST_INT, MOST_INT}) {
            due("n " + n, x.back(0, 1, n, -1), BAD);
        }
        due("n 1", x.back(0, 1, 1, 0), 1000);
        due("n 6", x.back(0, 1, 6, 0), 5995);
        for (int i : new int[] {-2, -3, LEAST_INT}) {
            due("i " + i, x.back(0, 1, 1, i), BAD);
        }
        for (int b : new int[] {-1, 2, 9, LEAST_INT, MOST_INT}) {
            due("bridge " + b, x.back(b, 1, 1, -1), BAD);
        }
        due("shut: how many", shut(x).back(0, 1, 1, -1), 0);
        due("shut: the least", x.back(0, 1, 1, 0), NONE);
    }

    private static void riches() {
        says("An ORDER of a set of BRIDGES: each once, one behind the other.");
        DoubledBridge x = five();
        due("one", x.rich(20, 1), 32);
        due("one once, the other one once", x.rich(20, 3), 48);

        says("RICH: the greatest PURSE that some ORDER makes of a told one (by the empty set: that one).");
        due("the empty set", x.rich(20, 0), 20);
        due("the empty set, nothing", x.rich(0, 0), 0);
        due("the empty set, the most", x.rich(MOST, 0), MOST);
        due("the empty set of no bridges", new DoubledBridge().rich(7, 0), 7);
        due("all", x.rich(20, 31), 732);
        due("only by one order", x.rich(3, 3), NONE);
        due("only by one order", x.rich(3, 5), 0);
        x = road(1, 1, 1, 0, 1, 2, 0, 0, 1, 1, 1, 0, 1, 2, 0, 0, 1, 1, 1, 0, 1, 2, 0, 0, 1, 1, 1, 0, 1, 2, 0, 0, 1, 1, 1, 0);
        due("all nine", x.rich(20, 511), 315);
        due("the ninth", x.rich(20, 256), 19);

        says("RICH. BAD: also a set with others than BRIDGES; NONE: no ORDER can be crossed.");
        x = five();
        for (int set : NO_SET) {
            due("set " + set, x.rich(20, set), BAD);
        }
        for (int purse : NO_PURSE) {
            due("purse " + purse, x.rich(purse, 0), BAD);
        }
        due("a set of no bridges", new DoubledBridge().rich(7, 1), BAD);
        due("to nothing", x.rich(4, 1), 0);
        due("not enough", x.rich(3, 1), NONE);
        due("the most", x.rich(MOST, 31), MOST);
        law(x, "egg shut;");
        due("one is shut", x.rich(20, 7), NONE);
        due("without it", x.rich(20, 3), 48);
    }

    private static void sets() {
        says("Sets are told by bits.");
        DoubledBridge x = five();
        int[] one = {32, 24, 54, 32, 30};
        for (int b = 0; b < 5; b++) {
            due("bridge " + b, x.rich(20, 1 << b), one[b]);
            due("bridge " + b + " as an order", x.order(20, 1 << b, 0), b);
        }
        for (int set = 1; set < 32; set++) {
            due("how many of set " + set, x.order(20, set, Integer.bitCount(set) - 1) >= 0 ? 1 : 0, 1);
            due("no more of set " + set, x.order(20, set, Integer.bitCount(set)), NONE);
        }
    }

    private static void quotients() {
        says("Quotients are cut towards 0.");
        DoubledBridge x = with(road(PLAIN, 1, 0, 0, EGG, 1, 4, 0, MARKET, 1, 999, 0, PLAIN, 1, 1, 6), 1, 2, 5);
        due("pool: 2 times 1 by 3", x.pool(0, 1, 3), 0);
        due("the rest", x.personOf(1, 0), 2);
        due("pool: 6 times 2 by 7", x.pool(1, 2, 3), 1);
        due("the rest", x.personOf(2, 0), 5);
        due("rate: -100 by 3", x.rate(1, 20, 3), 967);
        due("rate: 100 by 3", x.rate(1, 21, 3), 1033);
        due("half of 999", x.bridgeOf(2, 5), 499);
        x.shelf(0, 0, 3);
        due("shares: -8 by 3", x.act(0, 2, -8), -2);
        due("shares: 8 by 3", x.act(0, 2, 8), 2);
    }

    private static void orders() {
        says("FIRST: of the ORDERS that make it RICH the first by numbers.");
        DoubledBridge x = five();
        int[] first = {2, 0, 3, 4, 1};
        for (int i = 0; i < 5; i++) {
            due("the only one: " + i, x.order(20, 31, i), first[i]);
            due("all make the most: " + i, x.order(MOST, 31, i), i);
        }
        due("the most, and it stays", road(PLAIN, 1, 0, 0, PLAIN, 1, 0, 0).order(MOST, 3, 0), 0);
        x = road(PLAIN, 1, 1, 0, PLAIN, 1, 0, 0, PLAIN, 2, 0, 0, PLAIN, 1, 0, 0);
        first = new int[] {1, 2, 0, 3};
        for (int i = 0; i < 4; i++) {
            due("the first of some: " + i, x.order(5, 15, i), first[i]);
        }

        says("The i-th BRIDGE (0 to 8) of FIRST. BAD likewise; NONE likewise, or it has not so many.");
        x = road(1, 1, 0, 0, 1, 1, 0, 0, 1, 1, 0, 0, 1, 1, 0, 0, 1, 1, 0, 0, 1, 1, 0, 0, 1, 1, 0, 0, 1, 1, 0, 0, 1, 1, 0, 0);
        for (int i = 0; i < 9; i++) {
            due("of nine: " + i, x.order(20, 511, i), i);
        }
        for (int i : new int[] {-1, 9, LEAST_INT, MOST_INT}) {
            due("i " + i, x.order(20, 511, i), BAD);
        }
        x = five();
        for (int set : NO_SET) {
            due("set " + set, x.order(20, set, 0), BAD);
        }
        for (int purse : NO_PURSE) {
            due("purse " + purse, x.order(purse, 1, 0), BAD);
        }
        due("the last", x.order(20, 31, 4), 1);
        for (int i = 5; i < 9; i++) {
            due("not so many: " + i, x.order(20, 31, i), NONE);
        }
        due("of one the first", x.order(20, 16, 0), 4);
        due("of one no second", x.order(20, 16, 1), NONE);
        due("of the empty set", x.order(20, 0, 0), NONE);
        due("not enough", x.order(3, 1, 0), NONE);
        due("just enough", x.order(4, 1, 0), 0);
        due("only so", x.order(3, 5, 0), 2);
        due("shut", shut(x).order(20, 1, 0), NONE);
    }

    private static void poors() {
        says("POOR: the least PURSE with which some ORDER can be crossed (by the empty set: 0).");
        DoubledBridge x = five();
        due("the empty set", x.poor(0), 0);
        due("the empty set, shut", shut(five()).poor(0), 0);
        due("the empty set of no bridges", new DoubledBridge().poor(0), 0);
        int[] least = {4, 8, 2, 4, 5};
        for (int b = 0; b < 5; b++) {
            due("one", x.poor(1 << b), least[b]);
        }
        for (int set = 1; set < 32; set++) {
            due("with that, set " + set, x.rich(x.poor(set), set) >= 0 ? 1 : 0, 1);
            due("with one less, set " + set, x.rich(x.poor(set) - 1, set), NONE);
        }
        due("without a toll", road(PLAIN, 1, 0, 0, EGG, 1, 0, 0).poor(3), 0);
        x = road(1, 1, 999, 0, 1, 1, 999, 0, 1, 1, 999, 0, 2, 1, 999, 0, 2, 1, 999, 0, 2, 1, 999, 0, 2, 1, 999, 0, 1, 1, 999, 0,
            1, 1, 999, 0);
        due("all nine", x.poor(511), 8991);

        says("POOR. BAD likewise; NONE: with no PURSE.");
        x = five();
        for (int set : NO_SET) {
            due("set " + set, x.poor(set), BAD);
        }
        law(x, "egg shut;");
        due("one is shut", x.poor(7), NONE);
        due("without it", x.poor(3), 8);
    }

    private static void fasts() {
        says("FAST: the fewest crossings (0 to 60) by any BRIDGES, also by the same ones again, behind which a PURSE can be a goal or"
            + " more; its ROW: the first by numbers of those with so many.");
        DoubledBridge x = five();
        due("0: the goal", x.fast(20, 20), 0);
        due("0: more", x.fast(20, 0), 0);
        due("1: just that", x.fast(20, 54), 1);
        due("2: one more", x.fast(20, 55), 2);
        due("by the same one again", x.fast(20, 156), 2);
        due("3: one more", x.fast(20, 157), 3);
        due("many", road(PLAIN, 2, 999, 0).fast(1000, MOST), 30);
        due("one: the least number", x.by(20, 30, 0), 0);
        due("one: no lower number is enough", x.by(20, 33, 0), 2);
        due("two: the least number first", x.by(20, 90, 0), 0);
        due("two: then the only one", x.by(20, 90, 1), 2);
        due("two: then the least number", x.by(20, 55, 1), 0);
        x = road(PLAIN, 9, 999, 0, PLAIN, 2, 0, 0);
        due("what can be crossed only then", x.by(100, 801, 1), 0);
        due("and what comes ahead of it", x.by(100, 801, 0), 1);

        says("FAST (goal 0 to 1000000000). BAD; NONE: not in 60.");
        x = five();
        due("goal 0", x.fast(0, 0), 0);
        due("goal 1000000000", x.fast(500000004, MOST), 1);
        for (int v : NO_PURSE) {
            due("goal " + v, x.fast(20, v), BAD);
            due("purse " + v, x.fast(v, 20), BAD);
        }
        due("never", x.fast(1, 2), NONE);
        due("always the same", road(PLAIN, 2, 8, 0).fast(8, 9), NONE);
        due("by no bridges", new DoubledBridge().fast(8, 9), NONE);
        due("by no bridges, 0", new DoubledBridge().fast(9, 9), 0);
        due("shut", shut(x).fast(20, 21), NONE);
        due("shut, 0", x.fast(20, 20), 0);
    }

    private static void bys() {
        says("The i-th BRIDGE (0 to 59) of its ROW. BAD; NONE: there is no FAST, or it is not so many.");
        DoubledBridge x = five();
        due("the first", x.by(20, 100, 0), 2);
        due("the last", x.by(20, 100, 1), 0);
        due("not so many", x.by(20, 100, 2), NONE);
        due("not so many", x.by(20, 100, 59), NONE);
        due("none of 0", x.by(20, 20, 0), NONE);
        due("no FAST", x.by(1, 2, 0), NONE);
        for (int i : new int[] {-1, 60, LEAST_INT, MOST_INT}) {
            due("i " + i, x.by(20, 100, i), BAD);
        }
        for (int v : NO_PURSE) {
            due("goal " + v, x.by(20, v, 0), BAD);
            due("purse " + v, x.by(v, 20, 0), BAD);
        }
        DoubledBridge slow = road(STREAM, 1, 1, 0, PLAIN, 2, 999, 0);
        for (int i = 0; i < 30; i++) {
            due("of 30: " + i, slow.by(1000, MOST, i), 1);
        }
        due("no more than 30", slow.by(1000, MOST, 30), NONE);
        due("by no bridges", new DoubledBridge().by(8, 9, 0), NONE);
        due("shut", shut(x).by(20, 21, 0), NONE);
    }

    private static void swaps() {
        says("Whether with a PURSE one has more by a BRIDGE and then another one (1), or the other way round (2), or just as much (0;"
            + " also if neither way can be crossed); what can't be crossed is less than anything. BAD: also one and the same.");
        DoubledBridge x = five();
        due("so", x.swap(0, 1, 20), 1);
        due("the other way round", x.swap(1, 0, 20), 2);
        due("just as much", x.swap(0, 1, MOST), 0);
        due("neither way", x.swap(0, 1, 3), 0);
        due("neither way with nothing", x.swap(0, 1, 0), 0);
        due("nothing is more than what can't be crossed", x.swap(2, 0, 3), 1);
        due("nothing is more than what can't be crossed", x.swap(0, 2, 3), 2);
        due("one and the same", x.swap(1, 1, 20), BAD);
        for (int b : NO_BRIDGE) {
            due("one " + b, x.swap(b, 0, 20), BAD);
            due("other " + b, x.swap(0, b, 20), BAD);
        }
        for (int purse : NO_PURSE) {
            due("purse " + purse, x.swap(0, 1, purse), BAD);
        }
        law(x, "plain shut;");
        due("one is shut", x.swap(0, 1, 20), 0);
        due("both to nothing", road(PLAIN, 1, 1, 0, PLAIN, 1, 2, 0).swap(0, 1, 3), 0);
        due("just less for one way", road(PLAIN, 2, 1, 0, PLAIN, 1, 1, 0).swap(0, 1, 5), 1);
    }

    private static void devils() {
        says("DEVIL by n: the greatest TOLL of 0 to 999 which, were it that of a BRIDGE (THE LAW asks by it, too), lets a PURSE cross n"
            + " times and not be less then.");
        DoubledBridge x = five();
        due("999", x.devil(0, 99999, 1), 999);
        due("just 999", x.devil(0, 999, 1), 999);
        due("just below", x.devil(0, 998, 1), 998);
        due("0", x.devil(0, 0, 20), 0);
        due("1", x.devil(0, 1, 20), 1);
        due("an odd coin", x.devil(2, 51, 1), 101);
        due("the TOLL stays", x.bridgeOf(0, 2), 8);
        law(x, "plain if toll>50 free;");
        due("free above 50", x.devil(0, 3, 20), 999);
        law(x, "plain if toll>50 shut;");
        due("shut above 50", x.devil(0, 100, 20), 50);
        law(x, "plain if toll=0 free;plain if number=0 dear 10;");
        due("dear by its number", x.devil(0, 100, 1), 90);

        says("DEVIL by n (1 to 20) of a PURSE of 0 to 99999. BAD; NONE.");
        law(x, "plain dear 1;egg shut;");
        due("none, dear", x.devil(0, 0, 1), NONE);
        due("none, shut", x.devil(2, 99999, 1), NONE);
        x = five();
        due("n 20", x.devil(0, 100, 20), 100);
        for (int n : new int[] {0, 21, -1, LEAST_INT, MOST_INT}) {
            due("n " + n, x.devil(0, 100, n), BAD);
        }
        for (int purse : new int[] {-1, 100000, MOST, LEAST_INT, MOST_INT}) {
            due("purse " + purse, x.devil(0, purse, 1), BAD);
        }
        for (int b : NO_BRIDGE) {
            due("bridge " + b, x.devil(b, 100, 1), BAD);
        }
    }

    private static void rates() {
        says("RATE of a loan: what a PURSE and the loan together BECOME, less what the PURSE alone BECOMES, less the loan, times 100, by"
            + " the loan.");
        DoubledBridge x = road(PLAIN, 2, 8, 0, EGG, 1, 5, 0, EGG, 1, 4, 0);
        due("10 by 10", x.rate(0, 20, 10), 1100);

        says("RATE (cut) of a loan (1 to 99999) to a PURSE of 0 to 99999, and then 1000 more. BAD; NONE: it can't be crossed without it.");
        due("-1 by 1", x.rate(2, 20, 1), 900);
        due("-1 by 3 is cut to -33", x.rate(2, 20, 3), 967);
        due("1 by 3 is cut to 33", x.rate(2, 21, 3), 1033);
        due("0 by 2", x.rate(1, 21, 2), 1000);
        due("loan 99999", x.rate(0, 20, 99999), 1100);
        due("purse 99999", x.rate(0, 99999, 99999), 1100);
        due("purse 0", road(PLAIN, 2, 0, 0).rate(0, 0, 1), 1100);
        for (int v : new int[] {-1, 100000, MOST, LEAST_INT, MOST_INT}) {
            due("purse " + v, x.rate(0, v, 1), BAD);
            due("loan " + v, x.rate(0, 20, v), BAD);
        }
        due("loan 0", x.rate(0, 20, 0), BAD);
        for (int b : new int[] {-1, 3, 9, LEAST_INT, MOST_INT}) {
            due("bridge " + b, x.rate(b, 20, 1), BAD);
        }
        due("with it, not without it", x.rate(0, 3, 1), NONE);
        due("just without it", x.rate(0, 4, 1), 1100);
        due("not with it", x.rate(0, 1, 1), NONE);
        due("shut", shut(x).rate(0, 20, 10), NONE);
    }

    private static void worths() {
        says("WORTH of n (0 to 4) crossings with luck h: one may stop, or cross (if it can be crossed); then with h hundredths TIMES NOW"
            + " is 1 more that time; and so on, n times at most: the mean of what one has in the end, if one stops when that is as"
            + " good or better; times 100 to the power n.");
        DoubledBridge x = five();
        due("n 0", x.worth(0, 10, 50, 0), 10);
        due("12 or 22", x.worth(0, 10, 50, 1), 1700);
        due("one stops", x.worth(0, 5, 0, 1), 500);
        due("can't be crossed", x.worth(0, 3, 0, 4), 300000000L);
        due("just can be crossed, but no one does", x.worth(0, 4, 0, 1), 400);
        due("with nothing", x.worth(0, 0, 100, 4), 0);
        due("n 4, without luck", x.worth(0, 10, 0, 4), 4000000000L);
        due("crosses once, then stops or not", x.worth(0, 6, 30, 2), 73000);
        DoubledBridge great = road(MILL, 9, 0, 0);
        law(great, "mill double;");
        due("12 times, four times", great.worth(0, 9999, 100, 4), 20733926400000000L);
        due("11 times, four times", great.worth(0, 9999, 0, 4), 9999L * 11 * 11 * 11 * 11 * 100000000L);
        due("shut", shut(road(PLAIN, 2, 0, 0)).worth(0, 10, 50, 4), 1000000000L);

        says("WORTH of a PURSE of 0 to 9999 with luck h (0 to 100). BAD.");
        due("h 0", x.worth(0, 10, 0, 1), 1200);
        due("h 100", x.worth(0, 10, 100, 1), 2200);
        due("h 1", x.worth(0, 10, 1, 1), 1210);
        due("h 99", x.worth(0, 10, 99, 1), 2190);
        due("purse 9999", x.worth(0, 9999, 0, 0), 9999);
        for (int purse : new int[] {-1, 10000, MOST, LEAST_INT, MOST_INT}) {
            due("purse " + purse, x.worth(0, purse, 0, 0), BAD);
        }
        for (int h : new int[] {-1, 101, LEAST_INT, MOST_INT}) {
            due("h " + h, x.worth(0, 10, h, 0), BAD);
        }
        for (int n : new int[] {-1, 5, LEAST_INT, MOST_INT}) {
            due("n " + n, x.worth(0, 10, 0, n), BAD);
        }
        for (int b : NO_BRIDGE) {
            due("bridge " + b, x.worth(b, 10, 0, 0), BAD);
        }
    }

    private static void stops() {
        says("Whether one stops at once by that: 1, 0. BAD.");
        DoubledBridge x = five();
        due("crossing is better", x.stops(0, 9, 0, 1), 0);
        due("stopping is as good", x.stops(0, 8, 0, 1), 1);
        due("as good, four times", x.stops(0, 8, 0, 4), 1);
        due("a hundredth of luck is better", x.stops(0, 8, 1, 1), 0);
        due("stopping is better", x.stops(0, 7, 0, 1), 1);
        due("n 0", x.stops(0, 99, 100, 0), 1);
        due("can't be crossed", x.stops(0, 3, 100, 4), 1);
        due("with luck just as good", x.stops(0, 4, 100, 1), 1);
        due("n 4 is better where n 1 isn't", x.stops(0, 5, 50, 1) * 10 + x.stops(0, 5, 50, 4), 10);
        due("purse 9999, h 100, n 4", x.stops(0, 9999, 100, 4), 0);
        for (int purse : new int[] {-1, 10000, MOST, LEAST_INT, MOST_INT}) {
            due("purse " + purse, x.stops(0, purse, 0, 0), BAD);
        }
        for (int h : new int[] {-1, 101, LEAST_INT, MOST_INT}) {
            due("h " + h, x.stops(0, 10, h, 0), BAD);
        }
        for (int n : new int[] {-1, 5, LEAST_INT, MOST_INT}) {
            due("n " + n, x.stops(0, 10, 0, n), BAD);
        }
        for (int b : NO_BRIDGE) {
            due("bridge " + b, x.stops(b, 10, 0, 0), BAD);
        }
        due("shut", shut(x).stops(0, 99, 100, 4), 1);
    }

    private static void meets() {
        says("Two PEOPLE, each by a BRIDGE again and again, as often as the other one: behind how many crossings (0 to 60) the one who"
            + " has less now (the first, if both have as much: 0 then) has as much or more. BAD: also one and the same PERSON;"
            + " NONE: not in 60, or one can't go on.");
        DoubledBridge x = with(road(PLAIN, 1, 1, 0, PLAIN, 1, 2, 0), 1000, 1060, 1060, 5);
        due("both as much", x.meet(1, 2, 0, 1), 0);
        due("both as much, whoever goes", x.meet(1, 2, 1, 0), 0);
        due("behind 60", x.meet(0, 1, 0, 1), 60);
        due("behind 60, the second has less", x.meet(1, 0, 1, 0), 60);
        x.purse(1, 1061);
        due("behind 61", x.meet(0, 1, 0, 1), NONE);
        due("behind 61, the second has less", x.meet(1, 0, 1, 0), NONE);
        x.purse(1, 1059);
        due("behind 59", x.meet(0, 1, 0, 1), 59);
        due("one can't go on", x.meet(3, 0, 1, 1), NONE);
        due("the other one can't go on", x.meet(0, 3, 1, 1), NONE);
        x.purse(1, 6);
        x.purse(2, 3);
        due("both to nothing", x.meet(1, 2, 1, 0), 3);
        x.purse(1, 7);
        due("just above, and then one can't go on", x.meet(1, 2, 1, 0), NONE);
        due("by the same bridge", x.meet(1, 2, 0, 0), NONE);
        due("one and the same person", x.meet(0, 0, 0, 1), BAD);
        for (int p : new int[] {-1, 4, 6, LEAST_INT, MOST_INT}) {
            due("first " + p, x.meet(p, 0, 0, 1), BAD);
            due("second " + p, x.meet(0, p, 0, 1), BAD);
        }
        for (int b : new int[] {-1, 2, 9, LEAST_INT, MOST_INT}) {
            due("bridge " + b, x.meet(0, 1, b, 0), BAD);
            due("the other one's " + b, x.meet(0, 1, 0, b), BAD);
        }
        due("no one crossed", x.personOf(0, 1) + x.personOf(1, 1), 0);
        due("the PURSE stays", x.personOf(0, 0), 1000);
        due("shut, both as much", shut(with(five(), 5, 5)).meet(0, 1, 0, 0), 0);
        due("shut", shut(with(five(), 5, 6)).meet(0, 1, 0, 0), NONE);
        due("more by the most", with(road(PLAIN, 9, 0, 0), 1, 2).meet(0, 1, 0, 0), 10);
    }
}
