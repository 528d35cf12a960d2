/** BRIDGES, the DAY, PURSES, PEOPLE: each sentence that names a boundary case. */
public final class RoadSentenceTests extends Sentences {
    private static final int[] NO_TIMES = {0, 10, -1, LEAST_INT, MOST_INT};
    private static final int[] NO_TOLL = {-1, 1000, LEAST_INT, MOST_INT};
    private static final int[] NO_DAY = {-1, 7, LEAST_INT, MOST_INT};
    private static final int[] NO_KIND = {0, 6, -1, LEAST_INT, MOST_INT};
    private static final int[] NO_PURSE = {-1, MOST + 1, LEAST_INT, MOST_INT};

    public static void main(String[] args) {
        newObject();
        bridges();
        bridgeFacts();
        changes();
        mends();
        days();
        kinds();
        timesNow();
        tollNow();
        open();
        becomes();
        mostCoins();
        leastCoins();
        persons();
        purses();
        crosses();
        pools();
        poolStates();
        gifts();
        end();
    }

    private static void newObject() {
        says("No BRIDGES, PEOPLE, TALES, no LAW; nothing is kept.");
        DoubledBridge x = new DoubledBridge();
        for (int what = 0; what <= 3; what++) {
            due("many(" + what + ")", x.many(what), 0);
        }
        due("bridgeOf(0, 0)", x.bridgeOf(0, 0), BAD);
        due("personOf(0, 0)", x.personOf(0, 0), BAD);
        due("forget()", x.forget(), 0);
        due("again()", x.again(), NONE);
        x.bridge(PLAIN, 2, 8, 6);
        due("TIMES NOW without a law", x.bridgeOf(0, 4), 2);
        due("TOLL NOW without a law", x.bridgeOf(0, 5), 8);
        due("OPEN without a law", x.bridgeOf(0, 6), 1);

        says("An object is used for at most 512 calls after it has been made");
        x = new DoubledBridge();
        due("call 1", x.bridge(PLAIN, 1, 1, 0), 0);
        due("call 2", x.person(MOST), 0);
        for (int call = 3; call <= 511; call++) {
            due("call " + call, x.cross(0, 0), MOST - (call - 2));
        }
        due("call 512", x.personOf(0, 1), 509);
        x = new DoubledBridge();
        for (int call = 1; call <= 510; call++) {
            due("call " + call, x.keep(), 1);
        }
        due("call 511", x.bridge(MARKET, 9, 999, 6), 0);
        due("call 512", x.again(), 0);
    }

    private static void bridges() {
        says("BRIDGES, 9 at most, numbered (from 0) as they come");
        DoubledBridge x = new DoubledBridge();
        for (int b = 0; b < 9; b++) {
            due("bridge " + b, x.bridge(PLAIN, b + 1, b, 0), b);
        }
        due("the tenth", x.bridge(PLAIN, 1, 0, 0), FULL);
        due("how many", x.many(0), 9);
        due("the first", x.bridgeOf(0, 1), 1);
        due("the ninth", x.bridgeOf(8, 1), 9);

        says("A BRIDGE of a KIND 1 to 5: its number. BAD; FULL.");
        x = new DoubledBridge();
        for (int kind : NO_KIND) {
            due("kind " + kind, x.bridge(kind, 1, 0, 0), BAD);
        }
        for (int kind = 1; kind <= 5; kind++) {
            due("kind " + kind, x.bridge(kind, 1, 0, 0), kind - 1);
            due("its KIND", x.bridgeOf(kind - 1, 0), kind);
        }

        says("a KIND, TIMES (1 to 9), TOLL (0 to 999), FEAST (a DAY, 0 to 6)");
        x = new DoubledBridge();
        for (int times : NO_TIMES) {
            due("times " + times, x.bridge(PLAIN, times, 0, 0), BAD);
        }
        for (int toll : NO_TOLL) {
            due("toll " + toll, x.bridge(PLAIN, 1, toll, 0), BAD);
        }
        for (int feast : NO_DAY) {
            due("feast " + feast, x.bridge(PLAIN, 1, 0, feast), BAD);
        }
        due("none came", x.many(0), 0);
        due("the least", x.bridge(PLAIN, 1, 0, 0), 0);
        due("the greatest", x.bridge(MARKET, 9, 999, 6), 1);
        int[][] facts = {{1, 1, 0, 0}, {5, 9, 999, 6}};
        for (int b = 0; b < 2; b++) {
            for (int what = 0; what < 4; what++) {
                due("bridgeOf(" + b + ", " + what + ")", x.bridgeOf(b, what), facts[b][what]);
            }
        }
    }

    private static void bridgeFacts() {
        says("Of a BRIDGE: what = 0 KIND, 1 TIMES, 2 TOLL, 3 FEAST, 4 TIMES NOW, 5 TOLL NOW, 6 whether it is OPEN (1, else 0)."
            + " BAD.");
        DoubledBridge x = road(MILL, 2, 7, 0, MARKET, 3, 9, 0);
        law(x, "market shut;");
        int[][] facts = {{3, 2, 7, 0, 3, 7, 1}, {5, 3, 9, 0, 3, 4, 0}};
        for (int b = 0; b < 2; b++) {
            for (int what = 0; what <= 6; what++) {
                due("bridgeOf(" + b + ", " + what + ")", x.bridgeOf(b, what), facts[b][what]);
            }
        }
        for (int what : new int[] {-1, 7, LEAST_INT, MOST_INT}) {
            due("what " + what, x.bridgeOf(0, what), BAD);
        }
        for (int b : new int[] {-1, 2, 8, 9, LEAST_INT, MOST_INT}) {
            due("bridge " + b, x.bridgeOf(b, 0), BAD);
        }
    }

    private static void changes() {
        says("TIMES (what 1), TOLL (2), FEAST (3) of a BRIDGE becomes v: what it was. BAD.");
        DoubledBridge x = road(MILL, 2, 7, 3);
        int[][] range = {{1, 9}, {0, 999}, {0, 6}};
        int[] was = {2, 7, 3};
        for (int what = 1; what <= 3; what++) {
            due("the greatest", x.change(0, what, range[what - 1][1]), was[what - 1]);
            due("what it is", x.bridgeOf(0, what), range[what - 1][1]);
            due("the least", x.change(0, what, range[what - 1][0]), range[what - 1][1]);
            for (int v : what == 1 ? NO_TIMES : what == 2 ? NO_TOLL : NO_DAY) {
                due("what " + what + ", v " + v, x.change(0, what, v), BAD);
            }
            due("what it is", x.bridgeOf(0, what), range[what - 1][0]);
        }
        due("TIMES NOW, on the FEAST by now", x.bridgeOf(0, 4), 2);
        for (int what : new int[] {0, 4, -1, LEAST_INT, MOST_INT}) {
            due("what " + what, x.change(0, what, 1), BAD);
        }
        for (int b : new int[] {-1, 1, 9, LEAST_INT, MOST_INT}) {
            due("bridge " + b, x.change(b, 1, 1), BAD);
        }
    }

    private static void mends() {
        says("A BRIDGE becomes one of another KIND (1 to 5): the KIND that it was. BAD.");
        DoubledBridge x = road(PLAIN, 1, 0, 0, PLAIN, 2, 8, 0);
        int was = PLAIN;
        for (int kind : new int[] {5, 4, 3, 2, 1}) {
            due("to kind " + kind, x.mend(1, kind), was);
            due("the KIND then", x.bridgeOf(1, 0), kind);
            due("the TIMES stay", x.bridgeOf(1, 1), 2);
            due("the TOLL stays", x.bridgeOf(1, 2), 8);
            due("the FEAST stays", x.bridgeOf(1, 3), 0);
            due("TIMES NOW", x.bridgeOf(1, 4), kind == MILL ? 3 : 2);
            due("TOLL NOW", x.bridgeOf(1, 5), kind == MARKET ? 4 : 8);
            was = kind;
        }
        for (int kind : NO_KIND) {
            due("to kind " + kind, x.mend(1, kind), BAD);
        }
        for (int b : new int[] {-1, 2, 9, LEAST_INT, MOST_INT}) {
            due("bridge " + b, x.mend(b, 2), BAD);
        }
        due("the number of bridges stays", x.many(0), 2);
    }

    private static void days() {
        says("DAY is 0 to 6 (0 at first).");
        DoubledBridge x = road(MILL, 2, 4, 0, MILL, 2, 4, 6);
        due("on the feast of day 0 at first", x.bridgeOf(0, 4), 3);
        due("day(6)", x.day(6), 0);
        due("off it then", x.bridgeOf(0, 4), 2);
        due("on the feast of day 6", x.bridgeOf(1, 4), 3);

        says("The DAY becomes v: what it was. BAD.");
        for (int v : NO_DAY) {
            due("day(" + v + ")", x.day(v), BAD);
        }
        due("day(0)", x.day(0), 6);
        due("day(0)", x.day(0), 0);
        for (int v = 1; v <= 6; v++) {
            due("day(" + v + ")", x.day(v), v - 1);
        }
    }

    private static void kinds() {
        says("KINDS: 0 bridge; 1 plain, 2 stream, 4 egg (under bridge); 3 mill (under stream); 5 market (under egg).");
        String[] name = {"bridge", "plain", "stream", "mill", "egg", "market"};
        // The KINDS, as bits, that are the one named or under it.
        int[] under = {0b111110, 0b000010, 0b001100, 0b001000, 0b110000, 0b100000};
        for (int kind = 0; kind <= 5; kind++) {
            DoubledBridge x = road(1, 2, 8, 6, 2, 2, 8, 6, 3, 2, 8, 6, 4, 2, 8, 6, 5, 2, 8, 6);
            law(x, name[kind] + " shut;");
            for (int b = 0; b < 5; b++) {
                due("kind " + (b + 1) + " by " + name[kind], x.bridgeOf(b, 6), 1 - (under[kind] >> (b + 1) & 1));
            }
        }

        says("THE LAW changes a BRIDGE by the first of its CLAUSES whose KIND is that of the BRIDGE or above it, and whose"
            + " condition holds.");
        DoubledBridge x = road(MILL, 2, 8, 6, STREAM, 2, 8, 6, PLAIN, 2, 8, 6);
        law(x, "mill if 1=2 shut;stream if toll=8 dear 1;mill dear 2;bridge if number=9 free;");
        due("the first whose condition holds", x.bridgeOf(0, 5), 9);
        due("the one above a mill", x.bridgeOf(1, 5), 9);
        due("none", x.bridgeOf(2, 5), 8);
        due("none shuts", x.bridgeOf(2, 6), 1);
        law(x, "mill dear 2;stream dear 1;");
        due("the first though another one comes", x.bridgeOf(0, 5), 10);
        due("no clause of one under it", x.bridgeOf(1, 5), 9);
    }

    private static void timesNow() {
        says("TIMES NOW: TIMES; 1 more by double; 1 more for a mill on its FEAST.");
        DoubledBridge x = road(1, 9, 8, 0, 2, 9, 8, 0, 3, 9, 8, 0, 4, 9, 8, 0, 5, 9, 8, 0);
        for (int b = 0; b < 5; b++) {
            due("on the FEAST, kind " + (b + 1), x.bridgeOf(b, 4), b == 2 ? 10 : 9);
        }
        law(x, "bridge double;");
        for (int b = 0; b < 5; b++) {
            due("on the FEAST and by double, kind " + (b + 1), x.bridgeOf(b, 4), b == 2 ? 11 : 10);
        }
        x.day(1);
        for (int b = 0; b < 5; b++) {
            due("by double alone, kind " + (b + 1), x.bridgeOf(b, 4), 10);
            due("the TIMES stay", x.bridgeOf(b, 1), 9);
            due("the TOLL NOW", x.bridgeOf(b, 5), 8);
        }
        x = road(MILL, 9, 0, 0);
        law(x, "mill double;");
        due("11 times", x.after(0, 3, 1), 33);
        law(x, "mill dear 1;");
        due("no more by another DO", x.bridgeOf(0, 4), 10);
    }

    private static void tollNow() {
        says("TOLL NOW: TOLL; 0 by free; N more by dear; then, for a market on its FEAST, half of that.");
        DoubledBridge x = road(1, 2, 999, 0, 2, 2, 9, 0, 3, 2, 9, 0, 4, 2, 9, 0, 5, 2, 9, 0, 5, 2, 999, 0, 5, 2, 1, 0, 5, 2, 0, 0);
        int[] none = {999, 9, 9, 9, 4, 499, 0, 0};
        tolls(x, none);
        law(x, "bridge dear 0;");
        tolls(x, none);
        law(x, "bridge dear 999;");
        tolls(x, 1998, 1008, 1008, 1008, 504, 999, 500, 499);
        x.day(1);
        tolls(x, 1998, 1008, 1008, 1008, 1008, 1998, 1000, 999);
        law(x, "bridge free;");
        tolls(x, 0, 0, 0, 0, 0, 0, 0, 0);
        x.day(0);
        tolls(x, 0, 0, 0, 0, 0, 0, 0, 0);
        law(x, "bridge double;");
        tolls(x, none);
        for (int b = 0; b < 8; b++) {
            due("the TOLL as told", x.bridgeOf(b, 2), new int[] {999, 9, 9, 9, 9, 999, 1, 0}[b]);
        }
    }

    private static void tolls(DoubledBridge x, int... want) {
        for (int b = 0; b < want.length; b++) {
            due("TOLL NOW of " + b, x.bridgeOf(b, 5), want[b]);
        }
    }

    private static void open() {
        says("It is OPEN, if it isn't shut by THE LAW.");
        DoubledBridge x = with(road(PLAIN, 2, 8, 0), MOST);
        for (String deed : new String[] {"free", "dear 999", "double"}) {
            law(x, "bridge " + deed + ";");
            due("by " + deed, x.bridgeOf(0, 6), 1);
        }
        law(x, "bridge shut;");
        due("by shut", x.bridgeOf(0, 6), 0);
        due("TIMES NOW of a shut one", x.bridgeOf(0, 4), 2);
        due("TOLL NOW of a shut one", x.bridgeOf(0, 5), 8);

        says("A PURSE (0 to 1000000000) BECOMES by a BRIDGE that is OPEN");
        due("a shut one", x.cross(0, 0), STATE);
        law(x, "");
        due("open again", x.cross(0, 0), MOST);
    }

    private static void becomes() {
        says("(t TIMES NOW, c TOLL NOW)");
        DoubledBridge x = road(MILL, 2, 4, 0, MARKET, 2, 9, 0);
        due("a mill on its feast", x.after(0, 10, 1), 18);
        due("a market on its feast", x.after(1, 10, 1), 16);

        says("plain: t times PURSE, less c.");
        x = five();
        due("20", x.after(0, 20, 1), 32);
        says("stream, mill: t times (PURSE less c).");
        due("stream", x.after(1, 20, 1), 24);
        due("mill", x.after(3, 20, 1), 32);
        says("egg, market: as plain, and an odd coin is lost (1 less, if that is odd).");
        due("egg, odd", x.after(2, 20, 1), 54);
        due("egg, not odd", x.after(2, 21, 1), 58);
        due("egg, 1 is odd", x.after(2, 2, 1), 0);
        due("market, odd", x.after(4, 20, 1), 30);
        due("market, 1 is odd", x.after(4, 5, 1), 0);
        x.change(4, 2, 8);
        due("market, not odd", x.after(4, 20, 1), 32);
    }

    private static void mostCoins() {
        says("What is above 1000000000 in the end is 1000000000.");
        DoubledBridge x = road(PLAIN, 2, 8, 6, STREAM, 2, 8, 6, EGG, 3, 5, 6, EGG, 2, 999, 6);
        due("plain, just below, but not ahead of the toll", x.after(0, 500000003, 1), 999999998);
        due("plain, just that", x.after(0, 500000004, 1), MOST);
        due("plain, just above", x.after(0, 500000005, 1), MOST);
        due("stream, just below", x.after(1, 500000007, 1), 999999998);
        due("stream, just that", x.after(1, 500000008, 1), MOST);
        due("stream, just above", x.after(1, 500000009, 1), MOST);
        due("egg, just below", x.after(2, 333333334, 1), 999999996);
        due("egg, just that", x.after(2, 333333335, 1), MOST);
        due("egg, an odd coin above", x.after(3, 500000500, 1), MOST);
        for (int times = 1; times <= 9; times++) {
            for (int kind = 1; kind <= 5; kind++) {
                x = road(kind, times, 0, 6);
                due(times + " times, kind " + kind, x.after(0, MOST, 1), MOST);
            }
        }
        x = road(MILL, 9, 0, 0);
        law(x, "mill double;");
        due("11 times", x.after(0, MOST, 1), MOST);
    }

    private static void leastCoins() {
        says("It can be crossed with a PURSE, if nothing in that is below 0.");
        DoubledBridge x = five();
        int[] least = {4, 8, 2, 4, 5};
        for (int b = 0; b < 5; b++) {
            due("just with " + least[b], x.after(b, least[b], 1), 0);
            due("not with one less", x.after(b, least[b] - 1, 1), NONE);
            due("not with 0", x.after(b, 0, 1), NONE);
        }
        x = road(STREAM, 9, 8, 6, MILL, 9, 8, 6, EGG, 1, 1, 6, MARKET, 1, 1, 6);
        due("stream: the purse less the toll", x.after(0, 7, 1), NONE);
        due("mill: the purse less the toll", x.after(1, 7, 1), NONE);
        due("egg: 1 less 1", x.after(2, 1, 1), 0);
        due("egg: 0 less 1", x.after(2, 0, 1), NONE);
        due("market: 1 less 1", x.after(3, 1, 1), 0);
        due("market: 0 less 1", x.after(3, 0, 1), NONE);
        for (int kind = 1; kind <= 5; kind++) {
            due("0 without a toll, kind " + kind, road(kind, 9, 0, 6).after(0, 0, 60), 0);
        }
    }

    private static void persons() {
        says("PEOPLE, 6 at most, numbered as they come: a PURSE, CROSSED (how often; 0 at first), LAST (the BRIDGE crossed latest;"
            + " none).");
        DoubledBridge x = five();
        for (int p = 0; p < 6; p++) {
            due("person " + p, x.person(100 + p), p);
            due("PURSE", x.personOf(p, 0), 100 + p);
            due("CROSSED at first", x.personOf(p, 1), 0);
            due("LAST: none", x.personOf(p, 2), -9);
        }
        due("the seventh", x.person(1), FULL);
        due("how many", x.many(1), 6);
        x.cross(5, 0);
        x.cross(5, 4);
        due("CROSSED", x.personOf(5, 1), 2);
        due("LAST: the latest", x.personOf(5, 2), 4);
        x.cross(5, 0);
        due("LAST: the first bridge is one", x.personOf(5, 2), 0);
        due("another one's CROSSED", x.personOf(4, 1), 0);

        says("A PERSON with a PURSE: the number. BAD; FULL.");
        x = new DoubledBridge();
        for (int purse : NO_PURSE) {
            due("person(" + purse + ")", x.person(purse), BAD);
        }
        due("person(0)", x.person(0), 0);
        due("person(1000000000)", x.person(MOST), 1);
        due("its PURSE", x.personOf(1, 0), MOST);
    }

    private static void purses() {
        says("Of a PERSON: what = 0 PURSE, 1 CROSSED, 2 LAST (-9: none). BAD.");
        DoubledBridge x = with(five(), 20, 30);
        for (int what : new int[] {-1, 3, LEAST_INT, MOST_INT}) {
            due("what " + what, x.personOf(0, what), BAD);
        }
        for (int p : new int[] {-1, 2, 5, 6, LEAST_INT, MOST_INT}) {
            due("person " + p, x.personOf(p, 0), BAD);
        }

        says("A PURSE becomes v: what it was. BAD.");
        x.cross(1, 0);
        due("to 0", x.purse(1, 0), 52);
        due("to the most", x.purse(1, MOST), 0);
        for (int v : NO_PURSE) {
            due("to " + v, x.purse(1, v), BAD);
        }
        for (int p : new int[] {-1, 2, 6, LEAST_INT, MOST_INT}) {
            due("person " + p, x.purse(p, 1), BAD);
        }
        due("PURSE", x.personOf(1, 0), MOST);
        due("CROSSED stays", x.personOf(1, 1), 1);
        due("LAST stays", x.personOf(1, 2), 0);
        due("the other one", x.personOf(0, 0), 20);
    }

    private static void crosses() {
        says("A PERSON crosses a BRIDGE: the PURSE then. BAD; STATE: it can't be crossed so.");
        DoubledBridge x = with(five(), 4, 3, MOST);
        due("with just enough", x.cross(0, 0), 0);
        due("with nothing left", x.cross(0, 0), STATE);
        due("with too little", x.cross(1, 0), STATE);
        due("CROSSED of the first", x.personOf(0, 1), 1);
        due("CROSSED of the other one", x.personOf(1, 1), 0);
        due("LAST of the other one", x.personOf(1, 2), -9);
        due("PURSE of the other one", x.personOf(1, 0), 3);
        due("with the most", x.cross(2, 4), MOST);
        law(x, "market shut;");
        due("a shut one", x.cross(2, 4), STATE);
        for (int p : new int[] {-1, 3, 6, LEAST_INT, MOST_INT}) {
            due("person " + p, x.cross(p, 0), BAD);
        }
        for (int b : new int[] {-1, 5, 9, LEAST_INT, MOST_INT}) {
            due("bridge " + b, x.cross(2, b), BAD);
        }
    }

    private static void pools() {
        says("Two put their PURSES together and cross as one; what that BECOMES is parted: the first has that times what he put in"
            + " by what both did, the other one the rest (both have CROSSED): the first one's PURSE.");
        DoubledBridge x = with(five(), 7, 3, 0);
        due("12 times 7 by 10, cut", x.pool(0, 1, 0), 8);
        due("the rest", x.personOf(1, 0), 4);
        for (int p = 0; p < 2; p++) {
            due("CROSSED", x.personOf(p, 1), 1);
            due("LAST", x.personOf(p, 2), 0);
        }
        due("who stays", x.personOf(2, 1), 0);
        due("he who put in 0", x.pool(2, 0, 0), 0);
        due("the rest is all", x.personOf(0, 0), 8);
        x.purse(0, 5);
        due("he who put in all", x.pool(0, 2, 0), 2);
        due("the rest is 0", x.personOf(2, 0), 0);
        x.purse(0, 400000000);
        x.purse(1, 500000000);
        due("1000000000 times 400000000", x.pool(0, 1, 0), 444444444);
        due("the rest", x.personOf(1, 0), 555555556);

        says("BAD: also one and the same; STATE: together above 1000000000, or 0; it can't be crossed so.");
        due("one and the same", x.pool(1, 1, 0), BAD);
        for (int v : new int[] {-1, 3, 6, LEAST_INT, MOST_INT}) {
            due("first " + v, x.pool(v, 1, 0), BAD);
            due("other " + v, x.pool(1, v, 0), BAD);
        }
        for (int b : new int[] {-1, 5, 9, LEAST_INT, MOST_INT}) {
            due("bridge " + b, x.pool(0, 1, b), BAD);
        }
    }

    private static void poolStates() {
        says("STATE: together above 1000000000, or 0; it can't be crossed so.");
        DoubledBridge x = with(road(PLAIN, 1, 0, 0, PLAIN, 1, 5, 0), 600000000, 400000000, 0, 0);
        due("together 1000000000", x.pool(0, 1, 0), 600000000);
        x.purse(1, 400000001);
        due("together 1000000001", x.pool(0, 1, 0), STATE);
        x.purse(0, MOST);
        x.purse(1, MOST);
        due("together 2000000000", x.pool(0, 1, 0), STATE);
        due("together 0", x.pool(2, 3, 0), STATE);
        x.purse(3, 1);
        due("together 1", x.pool(2, 3, 0), 0);
        x.purse(2, 2);
        x.purse(3, 2);
        due("together less than the toll", x.pool(2, 3, 1), STATE);
        x.purse(3, 3);
        due("together just the toll", x.pool(2, 3, 1), 0);
        due("the rest", x.personOf(3, 0), 0);
        law(x, "bridge shut;");
        x.purse(2, 50);
        due("shut", x.pool(2, 3, 0), STATE);
        due("CROSSED by those that could be", x.personOf(2, 1), 2);
    }

    private static void gifts() {
        says("n coins (1 to 1000000000) of one go to another one: what that one has then.");
        DoubledBridge x = with(five(), MOST, 0, 20);
        for (int n : new int[] {0, -1, MOST + 1, LEAST_INT, MOST_INT}) {
            due("n " + n, x.gives(0, 1, n), BAD);
        }
        due("n 1", x.gives(0, 1, 1), 1);
        due("what the giver has", x.personOf(0, 0), MOST - 1);
        x.purse(0, MOST);
        x.purse(1, 0);
        due("n 1000000000", x.gives(0, 1, MOST), MOST);
        due("what the giver has", x.personOf(0, 0), 0);
        due("nobody CROSSED", x.personOf(0, 1) + x.personOf(1, 1), 0);

        says("BAD: also one and the same; STATE: less than n, or above 1000000000 then.");
        due("one and the same", x.gives(1, 1, 1), BAD);
        for (int v : new int[] {-1, 3, 6, LEAST_INT, MOST_INT}) {
            due("one " + v, x.gives(v, 1, 1), BAD);
            due("other " + v, x.gives(1, v, 1), BAD);
        }
        due("one more than there is", x.gives(2, 0, 21), STATE);
        due("all there is", x.gives(2, 0, 20), 20);
        due("of nothing", x.gives(2, 0, 1), STATE);
        due("to 1000000001", x.gives(0, 1, 1), STATE);
        x.purse(1, MOST - 20);
        due("to 1000000001", x.gives(0, 2, 20), 20);
        x.purse(2, 21);
        due("to just above", x.gives(2, 1, 21), STATE);
        due("to just that", x.gives(2, 1, 20), MOST);
        x.purse(0, MOST);
        x.purse(2, MOST);
        due("both as much as may be", x.gives(0, 2, MOST), STATE);
    }
}
