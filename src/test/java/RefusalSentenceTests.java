import java.util.ArrayList;
import java.util.List;

/** What is said of refusals: that such a call changes nothing, and which of several is answered. */
public final class RefusalSentenceTests extends Sentences {
    private interface Call {
        long on(DoubledBridge x);
    }

    private interface Standing {
        DoubledBridge made();
    }

    public static void main(String[] args) {
        says("Answers below 0, where not told otherwise, are refusals; such a call changes nothing");
        badOfRoads();
        badOfPeople();
        badOfCrossings();
        badOfHosts();
        full();
        none();
        state();
        ofTheHost();
        usedUp();
        walked();
        firstNamed();
        constants();
        end();
    }

    // ---- objects in which there is some of all

    private static DoubledBridge some() {
        DoubledBridge x = with(five(), 20, 4, MOST);
        law(x, "plain if toll>50 dear 7;egg double;");
        x.tale(10, 12);
        x.keep();
        x.cross(0, 1);
        x.tale(20, 32);
        x.day(2);
        x.change(4, 2, 50);
        x.prove(0, 9, 3);
        x.alterRow(1, 2, 5);
        x.sheet(0, 0, 4);
        x.write(0, 1, 2);
        x.write(0, 2, 9);
        x.sheet(1, 2, 2);
        x.write(1, 1, 70000);
        x.shelf(0, 0, 3);
        x.shelf(1, 1, 1);
        x.act(0, 3, 5);
        feed(x, "mill shut");
        return x;
    }

    private static DoubledBridge filled() {
        DoubledBridge x = with(five(), 1, 2, 3, 4, 5, 6);
        for (int b = 5; b < 9; b++) {
            x.bridge(PLAIN, 2, b, b % 7);
        }
        for (int i = 0; i < 6; i++) {
            x.tale(i, 2 * i);
        }
        feed(x, "mill shut;" + times(190, " "));
        return x;
    }

    /** All bridges shut, one who has nothing. */
    private static DoubledBridge poor() {
        DoubledBridge x = with(five(), 0, 0, 30);
        law(x, "bridge shut;");
        x.tale(1, 1);
        x.tale(1, 2);
        x.tale(1, 3);
        x.prove(0, 9, 2);
        return x;
    }

    /** All that can be asked of an object, what THE TAPE has and what is kept last. */
    private static List<Long> all(DoubledBridge x) {
        List<Long> told = new ArrayList<>();
        road(x, told);
        for (int i = 0; i < 20; i++) {
            told.add((long) x.row(i, i % 3));
        }
        for (int what = 1; what <= 2; what++) {
            told.add((long) x.row(1, what));
        }
        for (int i = 0; i < 7; i++) {
            told.add((long) x.trace(i));
        }
        for (int sheet = 0; sheet < 4; sheet++) {
            for (int i = 0; i < 5; i++) {
                told.add((long) x.item(sheet, sheet == 1 ? 2 : 0, i));
            }
            for (int as : new int[] {0, 3, 12}) {
                told.add((long) x.taken(sheet, as));
            }
        }
        for (int what = 0; what < 3; what++) {
            told.add((long) x.fits(PLAIN, what));
        }
        told.add((long) x.liar(PLAIN));
        told.add((long) x.law());
        road(x, told);
        told.add((long) x.again());
        road(x, told);
        return told;
    }

    private static void road(DoubledBridge x, List<Long> told) {
        int bridges = x.many(0);
        int people = x.many(1);
        for (int what = 0; what <= 6; what++) {
            told.add((long) x.many(what));
            for (int b = 0; b < bridges; b++) {
                told.add((long) x.bridgeOf(b, what));
            }
        }
        for (int p = 0; p < people; p++) {
            for (int what = 0; what < 3; what++) {
                told.add((long) x.personOf(p, what));
            }
        }
        int day = x.day(6);
        told.add((long) day);
        x.day(day);
    }

    private static void refused(Standing standing, String call, long want, Call with) {
        DoubledBridge x = standing.made();
        DoubledBridge twin = standing.made();
        due(call, with.on(x), want);
        due("all that can be asked behind " + call, all(x).equals(all(twin)) ? 1 : 0, 1);
    }

    private static void bad(String call, Call with) {
        refused(RefusalSentenceTests::some, call, BAD, with);
    }

    // ---- a refused call changes nothing

    private static void badOfRoads() {
        bad("bridge: kind", x -> x.bridge(0, 1, 0, 0));
        bad("bridge: times", x -> x.bridge(1, 0, 0, 0));
        bad("bridge: toll", x -> x.bridge(1, 1, 1000, 0));
        bad("bridge: feast", x -> x.bridge(1, 1, 0, 7));
        bad("bridgeOf: bridge", x -> x.bridgeOf(5, 0));
        bad("bridgeOf: what", x -> x.bridgeOf(0, 7));
        bad("change: bridge", x -> x.change(5, 1, 1));
        bad("change: what", x -> x.change(0, 0, 2));
        bad("change: times", x -> x.change(0, 1, 10));
        bad("change: toll", x -> x.change(0, 2, -1));
        bad("change: feast", x -> x.change(0, 3, 7));
        bad("mend: bridge", x -> x.mend(5, 1));
        bad("mend: kind", x -> x.mend(0, 6));
        bad("day", x -> x.day(7));
        bad("feed: n 0", x -> x.feed(0x20L, 0));
        bad("feed: n 9", x -> x.feed(0x20L, 9));
    }

    private static void badOfPeople() {
        bad("person: below", x -> x.person(-1));
        bad("person: above", x -> x.person(MOST + 1));
        bad("personOf: person", x -> x.personOf(3, 0));
        bad("personOf: what", x -> x.personOf(0, 3));
        bad("purse: person", x -> x.purse(3, 1));
        bad("purse: below", x -> x.purse(0, -1));
        bad("purse: above", x -> x.purse(0, MOST + 1));
        bad("cross: person", x -> x.cross(3, 0));
        bad("cross: bridge", x -> x.cross(0, 5));
        bad("pool: first", x -> x.pool(3, 0, 0));
        bad("pool: other", x -> x.pool(0, 3, 0));
        bad("pool: the same", x -> x.pool(0, 0, 0));
        bad("pool: bridge", x -> x.pool(0, 1, 5));
        bad("gives: one", x -> x.gives(3, 0, 1));
        bad("gives: other", x -> x.gives(0, 3, 1));
        bad("gives: the same", x -> x.gives(0, 0, 1));
        bad("gives: n 0", x -> x.gives(0, 1, 0));
        bad("gives: n below", x -> x.gives(0, 1, -5));
        bad("gives: n above", x -> x.gives(2, 0, MOST + 1));
        bad("meet: the same", x -> x.meet(0, 0, 0, 0));
        bad("meet: person", x -> x.meet(0, 3, 0, 0));
        bad("meet: bridge", x -> x.meet(0, 1, 0, 5));
    }

    private static void badOfCrossings() {
        bad("after: bridge", x -> x.after(5, 1, 1));
        bad("after: purse", x -> x.after(0, -1, 1));
        bad("after: n", x -> x.after(0, 1, 61));
        bad("need", x -> x.need(0, 61));
        bad("ever", x -> x.ever(5));
        bad("same", x -> x.same(5));
        bad("few", x -> x.few(0, 1, -1));
        bad("back: n", x -> x.back(0, 1, 7, 0));
        bad("back: i", x -> x.back(0, 1, 1, -2));
        bad("rich", x -> x.rich(1, 32));
        bad("order: set", x -> x.order(1, 32, 0));
        bad("order: i", x -> x.order(1, 1, 9));
        bad("poor", x -> x.poor(32));
        bad("fast", x -> x.fast(1, -1));
        bad("by", x -> x.by(1, 1, 60));
        bad("swap", x -> x.swap(0, 0, 1));
        bad("devil: n", x -> x.devil(0, 1, 21));
        bad("devil: bridge", x -> x.devil(5, 1, 1));
        bad("rate", x -> x.rate(0, 1, 0));
        bad("worth", x -> x.worth(0, 1, 101, 1));
        bad("stops", x -> x.stops(0, 1, 1, 5));
        bad("tale: from", x -> x.tale(100000, 1));
        bad("tale: to", x -> x.tale(1, -1));
        bad("fits", x -> x.fits(3, 0));
        bad("liar", x -> x.liar(5));
        bad("prove: bridge", x -> x.prove(5, 9, 1));
        bad("prove: purse", x -> x.prove(0, -1, 1));
        bad("prove: n", x -> x.prove(0, 9, 21));
        bad("judge", x -> x.judge(5));
    }

    private static void badOfHosts() {
        bad("sheet: sheet", x -> x.sheet(4, 0, 1));
        bad("sheet: sort", x -> x.sheet(0, 5, 1));
        bad("sheet: n", x -> x.sheet(0, 0, 41));
        bad("write", x -> x.write(4, 0, 1));
        bad("item: sheet", x -> x.item(4, 0, 0));
        bad("item: sort", x -> x.item(0, 5, 0));
        bad("walks: person", x -> x.walks(3, 0, 0, 1));
        bad("walks: sheet", x -> x.walks(0, 4, 0, 1));
        bad("walks: n", x -> x.walks(0, 0, 0, 21));
        bad("shelf: shelf", x -> x.shelf(4, 0, 0));
        bad("shelf: what", x -> x.shelf(0, 3, 0));
        bad("shelf: bridge", x -> x.shelf(0, 0, 5));
        bad("shelf: sheet", x -> x.shelf(0, 1, 4));
        bad("taken: shelf", x -> x.taken(4, 0));
        bad("taken: as", x -> x.taken(0, 6));
        bad("many", x -> x.many(7));
    }

    private static void full() {
        Standing filled = RefusalSentenceTests::filled;
        refused(filled, "bridge", FULL, x -> x.bridge(1, 1, 0, 0));
        refused(filled, "feed", FULL, x -> x.feed(0x20L, 1));
        refused(filled, "person", FULL, x -> x.person(1));
        refused(filled, "tale", FULL, x -> x.tale(1, 1));
        DoubledBridge x = five();
        feed(x, "mill shut" + times(184, " "));
        due("feed, 8 where there is room for 7", x.feed(0x3b3b3b3b3b3b3b3bL, 8), FULL);
        due("none of them came", x.many(5), 193);
        due("feed, one of them", x.feed(0x3b3b3b3b3b3b3b3bL, 1), 194);
        due("law", x.law(), 1);
    }

    private static void none() {
        Standing poor = RefusalSentenceTests::poor;
        refused(poor, "after", NONE, x -> x.after(0, 9, 1));
        refused(poor, "need", NONE, x -> x.need(0, 1));
        refused(poor, "ever", NONE, x -> x.ever(0));
        refused(poor, "same", NONE, x -> x.same(0));
        refused(poor, "few", NONE, x -> x.few(0, 9, 10));
        refused(poor, "back", NONE, x -> x.back(0, 9, 1, 0));
        refused(poor, "rich", NONE, x -> x.rich(9, 1));
        refused(poor, "order", NONE, x -> x.order(9, 1, 0));
        refused(poor, "poor", NONE, x -> x.poor(1));
        refused(poor, "fast", NONE, x -> x.fast(9, 10));
        refused(poor, "by", NONE, x -> x.by(9, 10, 0));
        refused(poor, "devil", NONE, x -> x.devil(0, 9, 1));
        refused(poor, "rate", NONE, x -> x.rate(0, 9, 1));
        refused(poor, "meet", NONE, x -> x.meet(0, 2, 0, 0));
        refused(poor, "fits", NONE, x -> x.fits(1, 1));
        refused(poor, "liar", NONE, x -> x.liar(1));
        refused(poor, "again", NONE, x -> x.again());
        refused(poor, "trace", NONE, x -> x.trace(0));
        refused(RefusalSentenceTests::some, "trace", NONE, x -> x.trace(7));
    }

    private static void state() {
        Standing poor = RefusalSentenceTests::poor;
        Standing some = RefusalSentenceTests::some;
        refused(poor, "cross, shut", STATE, x -> x.cross(2, 0));
        refused(some, "cross, too little", STATE, x -> x.cross(1, 1));
        refused(poor, "pool, shut", STATE, x -> x.pool(0, 2, 0));
        refused(poor, "pool of nothing", STATE, x -> x.pool(0, 1, 0));
        refused(some, "pool, too much", STATE, x -> x.pool(0, 2, 0));
        refused(some, "gives, too little", STATE, x -> x.gives(1, 0, 5));
        refused(some, "gives, too much then", STATE, x -> x.gives(0, 2, 1));
    }

    private static void ofTheHost() {
        Standing some = RefusalSentenceTests::some;
        refused(some, "sheet", BELOW_ZERO, x -> x.sheet(0, 0, -1));
        refused(some, "write, missing", NOTHING, x -> x.write(2, 0, 1));
        refused(some, "write, outside", OUTSIDE, x -> x.write(0, 4, 1));
        refused(some, "write, ahead of all", OUTSIDE, x -> x.write(0, -1, 1));
        refused(some, "item, sort", OTHER_SORT, x -> x.item(0, 1, 0));
        refused(some, "item, missing", NOTHING, x -> x.item(2, 0, 0));
        refused(some, "item, outside", OUTSIDE, x -> x.item(0, 0, 4));
        refused(some, "walks, sort", OTHER_SORT, x -> x.walks(0, 1, 0, 1));
        refused(some, "walks, missing", NOTHING, x -> x.walks(0, 2, 0, 1));
        refused(some, "walks, outside", OUTSIDE, x -> x.walks(0, 0, 4, 1));
        refused(some, "taken, kind", OTHER_SORT, x -> x.taken(0, 1));
        refused(some, "taken, sort", OTHER_SORT, x -> x.taken(1, 10));
        refused(some, "taken, nothing", NOTHING, x -> x.taken(2, 0));
        refused(some, "row", -9, x -> x.row(3, 0));
        refused(some, "alterRow: row", -9, x -> x.alterRow(3, 0, 1));
        refused(some, "alterRow: what", -9, x -> x.alterRow(0, 3, 1));
        refused(some, "alterRow: what -1", -9, x -> x.alterRow(1, -1, 1));
    }

    private static void usedUp() {
        says("such a call changes nothing (but that THE TAPE is used up by law())");
        DoubledBridge x = some();
        DoubledBridge twin = some();
        due("a fault", x.law(), -109);
        due("THE TAPE is used up", x.many(5), 0);
        feed(x, "mill shut");
        due("all else", all(x).equals(all(twin)) ? 1 : 0, 1);
    }

    private static void walked() {
        says("-12: what stood ahead was crossed.");
        DoubledBridge x = some();
        DoubledBridge twin = some();
        due("over the end", x.walks(2, 0, 0, 5), OUTSIDE);
        twin.cross(2, 0);
        twin.cross(2, 2);
        twin.cross(2, 0);
        due("all that can be asked", all(x).equals(all(twin)) ? 1 : 0, 1);
    }

    // ---- of several the first named

    private static void firstNamed() {
        says("of several the first named: BAD (-1) there is no such thing, or a number is not as told; FULL (-2); NONE (-3); STATE (-4);"
            + " and what the host refuses: -11 nothing where something is asked, -12 a place outside, -13 a thing of another sort or"
            + " kind, -14 a size below 0, -15 parted by 0.");
        DoubledBridge x = filled();
        due("bridge: BAD, FULL", x.bridge(6, 1, 0, 0), BAD);
        due("bridge: BAD, FULL", x.bridge(1, 1, 0, 7), BAD);
        due("feed: BAD, FULL", x.feed(0L, 9), BAD);
        due("feed: BAD, FULL", x.feed(0L, 0), BAD);
        due("person: BAD, FULL", x.person(-1), BAD);
        due("person: BAD, FULL", x.person(MOST + 1), BAD);
        due("tale: BAD, FULL", x.tale(-1, 0), BAD);
        due("tale: BAD, FULL", x.tale(0, 100000), BAD);
        x = poor();
        due("after: BAD, NONE", x.after(0, 9, 61), BAD);
        due("need: BAD, NONE", x.need(0, 61), BAD);
        due("few: BAD, NONE", x.few(0, 9, MOST + 1), BAD);
        due("back: BAD, NONE", x.back(0, 9, 7, 0), BAD);
        due("rich: BAD, NONE", x.rich(9, 63), BAD);
        due("order: BAD, NONE", x.order(9, 1, 9), BAD);
        due("poor: BAD, NONE", x.poor(63), BAD);
        due("fast: BAD, NONE", x.fast(9, MOST + 1), BAD);
        due("by: BAD, NONE", x.by(9, 10, 60), BAD);
        due("devil: BAD, NONE", x.devil(0, 9, 21), BAD);
        due("rate: BAD, NONE", x.rate(0, 9, 100000), BAD);
        due("meet: BAD, NONE", x.meet(0, 2, 0, 5), BAD);
        due("fits: BAD, NONE", x.fits(3, 1), BAD);
        due("liar: BAD, NONE", x.liar(3), BAD);
        due("cross: BAD, STATE", x.cross(0, 5), BAD);
        due("pool: BAD, STATE", x.pool(0, 1, 5), BAD);
        due("pool of one and the same: BAD, STATE", x.pool(0, 0, 0), BAD);
        due("gives: BAD, STATE", x.gives(0, 2, 0), BAD);
        due("gives to one and the same: BAD, STATE", x.gives(0, 0, 5), BAD);
        due("gives more than there can be: BAD, STATE", x.gives(0, 2, MOST + 1), BAD);
        x = some();
        due("sheet: BAD, -14", x.sheet(4, 0, -1), BAD);
        due("sort: BAD, -14", x.sheet(0, 5, -1), BAD);
        due("write: BAD, -11", x.write(4, 9, 1), BAD);
        due("item: BAD, -11", x.item(2, 5, 9), BAD);
        due("item: BAD, -12", x.item(0, 5, 9), BAD);
        due("walks: BAD, -11", x.walks(0, 2, 0, 21), BAD);
        due("walks: BAD, -12", x.walks(0, 0, 9, 21), BAD);
        due("walks: BAD, -13", x.walks(3, 1, 0, 1), BAD);
        due("shelf: BAD, nothing", x.shelf(4, 1, 2), BAD);
        due("taken: BAD, -11", x.taken(2, 6), BAD);
        due("taken: BAD, -13", x.taken(1, 15), BAD);

        says("BAD: no such SHEET, sort; -13; -11; -12.");
        due("item: -13, -12", x.item(0, 1, 9), OTHER_SORT);
        due("item: -11, -12", x.item(2, 1, 9), NOTHING);

        says("BAD: no such PERSON, SHEET, n; -13; -11 (of n 0, too); -12: what stood ahead was crossed.");
        due("walks: -13, -12", x.walks(0, 1, 9, 1), OTHER_SORT);
        due("walks: -11, -12", x.walks(0, 2, 9, 1), NOTHING);

        says("BAD: no such SHEET; -11; -12.");
        due("write: -11, -12", x.write(2, 9, 1), NOTHING);
    }

    private static void constants() {
        says("public static final int BAD = -1, FULL = -2, NONE = -3, STATE = -4;");
        due("BAD", DoubledBridge.BAD, -1);
        due("FULL", DoubledBridge.FULL, -2);
        due("NONE", DoubledBridge.NONE, -3);
        due("STATE", DoubledBridge.STATE, -4);
    }
}
