/** Tales, rows, sheets, shelves, acts, what is kept: each sentence that names a boundary case. */
public final class HostSentenceTests extends Sentences {
    private static final int[] NO_GUESS = {0, 3, 5, 6, -1, LEAST_INT, MOST_INT};
    private static final int[] NO_PLACE = {-1, 4, LEAST_INT, MOST_INT};

    public static void main(String[] args) {
        tales();
        fits();
        liars();
        proofs();
        rows();
        judges();
        sheets();
        writes();
        items();
        walks();
        walksOutside();
        shelves();
        takenThings();
        acts();
        bodies();
        wraps();
        parts();
        traces();
        counts();
        kept();
        end();
    }

    private static DoubledBridge told(int... fromsAndTos) {
        DoubledBridge x = new DoubledBridge();
        for (int i = 0; i + 1 < fromsAndTos.length; i += 2) {
            x.tale(fromsAndTos[i], fromsAndTos[i + 1]);
        }
        return x;
    }

    private static void tales() {
        says("A TALE (6 at most): a PURSE from, a PURSE to.");
        DoubledBridge x = new DoubledBridge();
        for (int i = 0; i < 6; i++) {
            due("tale " + i, x.tale(i, i), i);
        }
        due("the seventh", x.tale(1, 1), FULL);
        due("many(3)", x.many(3), 6);

        says("A TALE (0 to 99999 each): its number. BAD; FULL.");
        x = new DoubledBridge();
        for (int v : new int[] {-1, 100000, MOST, LEAST_INT, MOST_INT}) {
            due("from " + v, x.tale(v, 0), BAD);
            due("to " + v, x.tale(0, v), BAD);
        }
        due("none came", x.many(3), 0);
        due("the least", x.tale(0, 0), 0);
        due("the greatest", x.tale(99999, 99999), 1);

        says("There are no TALES: how many there were.");
        due("two", x.forget(), 2);
        due("none", x.forget(), 0);
        due("many(3)", x.many(3), 0);
        due("numbered anew", x.tale(5, 5), 0);
    }

    private static void fits() {
        says("Guesses of a KIND that agree with all TALES: what = 0 how many, 1 TIMES, 2 TOLL of the first (by TIMES, then by TOLL)."
            + " BAD; NONE (1, 2): there is no first.");
        DoubledBridge x = new DoubledBridge();
        for (int kind : new int[] {PLAIN, STREAM, EGG}) {
            due("no tales, kind " + kind, x.fits(kind, 0), 9000);
            due("the least TIMES", x.fits(kind, 1), 1);
            due("the least TOLL", x.fits(kind, 2), 0);
        }
        for (int kind : NO_GUESS) {
            due("kind " + kind, x.fits(kind, 0), BAD);
        }
        for (int what : new int[] {-1, 3, LEAST_INT, MOST_INT}) {
            due("what " + what, x.fits(PLAIN, what), BAD);
        }
        x = told(10, 20, 10, 21);
        due("none agrees", x.fits(PLAIN, 0), 0);
        due("no first TIMES", x.fits(PLAIN, 1), NONE);
        due("no first TOLL", x.fits(PLAIN, 2), NONE);
        due("an odd coin", x.fits(EGG, 0), 0);
        due("one more TALE must agree, too", told(10, 12, 20, 32).fits(PLAIN, 0), 1);
        due("the first by TIMES", told(10, 12).fits(EGG, 1), 2);
        due("then by TOLL", told(10, 12).fits(EGG, 2), 7);

        says("A guess of KIND 1, 2 or 4: TIMES and TOLL by which each from BECOMES its to (no LAW asked).");
        x = told(1000, 1);
        due("TOLL 999", x.fits(PLAIN, 2), 999);
        due("no TOLL 1000", told(1001, 1).fits(PLAIN, 0), 0);
        due("TIMES 9", told(11111, 99999).fits(PLAIN, 1), 9);
        due("no TIMES 10", told(10, 100).fits(PLAIN, 0), 0);
        due("no TIMES 0", told(5, 0, 7, 0).fits(PLAIN, 0), 0);
        due("no TOLL -1", told(10, 11, 20, 21).fits(PLAIN, 0), 0);
        due("from 0 to 0", told(0, 0).fits(STREAM, 0), 9);
        due("from 0 to 1", told(0, 1).fits(PLAIN, 0), 0);
        due("can't be crossed", told(5, 0).fits(STREAM, 0), 9);
        due("to 0 by the odd coin, too", told(5, 0).fits(EGG, 0), 18);
        x = told(10, 12);
        law(x, "bridge shut;");
        due("no LAW asked", x.fits(PLAIN, 0), 8);
    }

    private static void liars() {
        says("LIAR: if no guess agrees with all TALES, the least TALE but for which some would.");
        due("the last", told(10, 12, 20, 32, 30, 53).liar(PLAIN), 2);
        due("the first", told(10, 13, 20, 32, 30, 52).liar(PLAIN), 0);
        due("either: the least", told(10, 12, 10, 13).liar(PLAIN), 0);
        due("but for that none would", told(10, 12, 10, 13).liar(EGG), 1);
        due("of six the last", told(10, 12, 20, 32, 30, 52, 40, 72, 50, 92, 60, 99999).liar(PLAIN), 5);
        due("the only one", told(0, 1).liar(PLAIN), 0);
        due("but for it TIMES 9, TOLL 999", told(200, 801, 300, 1701, 400, 5).liar(PLAIN), 2);
        due("but for it TIMES 1, TOLL 0", told(200, 200, 300, 300, 400, 5).liar(PLAIN), 2);
        due("there are no TIMES 0", told(5, 0, 7, 0).liar(PLAIN), 0);
        due("there are no TIMES 10", told(10, 100, 20, 200, 30, 5).liar(PLAIN), NONE);
        due("there is no TOLL 1000", told(2000, 1000, 3000, 2000, 4000, 5).liar(PLAIN), NONE);
        due("there is no TOLL -1", told(10, 11, 20, 21, 30, 5).liar(PLAIN), NONE);

        says("LIAR by guesses of a KIND. BAD; NONE: some agree with all; or there is no such TALE.");
        due("all agree", told(10, 12, 20, 32).liar(PLAIN), NONE);
        due("no tales", told().liar(PLAIN), NONE);
        due("two lie", told(10, 12, 20, 32, 30, 53, 40, 99999).liar(PLAIN), NONE);
        for (int kind : NO_GUESS) {
            due("kind " + kind, told(0, 1).liar(kind), BAD);
        }
    }

    private static void proofs() {
        says("ROWS of a BRIDGE and a PURSE by n (1 to 20): (the number of the crossing, 1 the first; PURSE ahead; PURSE behind), as long"
            + " as it can be crossed.");
        DoubledBridge x = five();
        due("n 20", x.prove(0, 9, 20), 20);
        due("the last's number", x.row(19, 0), 20);
        due("the last's purse ahead", x.row(19, 1), 8 + (1 << 19));
        due("the last's purse behind", x.row(19, 2), 8 + (1 << 20));
        due("n 1", x.prove(0, 9, 1), 1);
        int[] first = {1, 9, 10};
        for (int what = 0; what < 3; what++) {
            due("the first's " + what, x.row(0, what), first[what]);
        }
        due("none of the ROWS ahead is left", x.row(1, 0), -9);
        due("many(4)", x.many(4), 1);
        due("to nothing and no further", x.prove(0, 7, 20), 3);
        due("not at all", x.prove(0, 3, 20), 0);
        due("many(4)", x.many(4), 0);
        due("no first", x.row(0, 0), -9);

        says("ROWS: how many. BAD.");
        due("rows", x.prove(0, 7, 2), 2);
        for (int n : new int[] {0, 21, -1, LEAST_INT, MOST_INT}) {
            due("n " + n, x.prove(0, 9, n), BAD);
        }
        for (int purse : new int[] {-1, MOST + 1, LEAST_INT, MOST_INT}) {
            due("purse " + purse, x.prove(0, purse, 1), BAD);
        }
        for (int b : new int[] {-1, 5, 9, LEAST_INT, MOST_INT}) {
            due("bridge " + b, x.prove(b, 9, 1), BAD);
        }
        due("the ROWS stay", x.many(4), 2);
        due("purse 1000000000", x.prove(0, MOST, 3), 3);
        law(x, "plain shut;");
        due("shut", x.prove(0, 9, 1), 0);
        due("purse 0", road(PLAIN, 1, 0, 0).prove(0, 0, 20), 20);
    }

    private static void rows() {
        says("Of ROW i: what = 0 the number, 1 PURSE ahead, 2 PURSE behind. -9: there is none such, another what.");
        DoubledBridge x = five();
        due("none at first", x.row(0, 0), -9);
        x.prove(0, 7, 3);
        due("the last", x.row(2, 2), 0);
        for (int i : new int[] {-1, 3, 20, LEAST_INT, MOST_INT}) {
            due("row " + i, x.row(i, 0), -9);
        }
        for (int what : new int[] {-1, 3, LEAST_INT, MOST_INT}) {
            due("what " + what, x.row(0, what), -9);
            due("of the second, what " + what, x.row(1, what), -9);
        }

        says("It becomes v: what it was. -9 likewise.");
        for (int i : new int[] {-1, 3, 20, LEAST_INT, MOST_INT}) {
            due("row " + i, x.alterRow(i, 0, 5), -9);
        }
        for (int what : new int[] {-1, 3, LEAST_INT, MOST_INT}) {
            due("what " + what, x.alterRow(1, what, 5), -9);
        }
        int[][] were = {{1, 7, 6}, {2, 6, 4}, {3, 4, 0}};
        for (int i = 0; i < 3; i++) {
            for (int what = 0; what < 3; what++) {
                due("what it was", x.alterRow(i, what, MOST_INT - what), were[i][what]);
            }
        }
        for (int i = 0; i < 3; i++) {
            for (int what = 0; what < 3; what++) {
                due("what it is", x.alterRow(i, what, LEAST_INT), MOST_INT - what);
                due("what it is then", x.row(i, what), LEAST_INT);
            }
        }
    }

    private static DoubledBridge altered(int purse, int n, int i, int what, int v) {
        DoubledBridge x = five();
        x.prove(0, purse, n);
        x.alterRow(i, what, v);
        return x;
    }

    private static void judges() {
        says("THE READER takes ROWS as such of a BRIDGE: right is one that tells its number, of which the PURSE ahead is that behind the"
            + " ROW ahead (of the first: 0 to 1000000000), and the PURSE behind what it BECOMES.");
        due("its number, 0", altered(9, 20, 0, 0, 0).judge(0), 1);
        due("its number, 1 more", altered(9, 20, 19, 0, 21).judge(0), 20);
        due("its number, 1 less", altered(9, 20, 19, 0, 19).judge(0), 20);
        DoubledBridge x = altered(9, 3, 1, 1, 11);
        x.alterRow(1, 2, 14);
        due("not that behind the row ahead", x.judge(0), 2);
        x.alterRow(0, 2, 11);
        due("that behind the row ahead, which isn't right", x.judge(0), 1);
        due("not what it becomes", altered(9, 3, 2, 2, 17).judge(0), 3);
        due("the first -1", altered(9, 1, 0, 1, -1).judge(0), 1);
        x = altered(4, 1, 0, 1, 0);
        x.alterRow(0, 2, -8);
        due("the first 0, which can't be crossed", x.judge(0), 1);
        x.alterRow(0, 2, -1);
        due("nor with -1 behind", x.judge(0), 1);
        x.alterRow(0, 2, NONE);
        due("nor with -3 behind", x.judge(0), 1);
        due("the first 1000000000", altered(MOST, 2, 0, 1, MOST).judge(0), 0);
        due("the first 1000000001", altered(MOST, 2, 0, 1, MOST + 1).judge(0), 1);
        due("another first", altered(MOST, 1, 0, 1, MOST - 1).judge(0), 0);
        x = road(PLAIN, 1, 0, 0);
        x.prove(0, 0, 20);
        due("the first 0", x.judge(0), 0);
        x.alterRow(0, 1, -1);
        x.alterRow(0, 2, -1);
        due("the first -1, -1 behind", x.judge(0), 1);

        says("THE READER takes ROWS as those of a BRIDGE: 0 all is right; else the first ROW that isn't, and 1 more. BAD.");
        x = five();
        due("no ROWS", x.judge(0), 0);
        for (int b : new int[] {-1, 5, 9, LEAST_INT, MOST_INT}) {
            due("bridge " + b, x.judge(b), BAD);
        }
        x.prove(0, 9, 20);
        due("all right", x.judge(0), 0);
        due("as those of another bridge", x.judge(1), 1);
        x.alterRow(19, 2, 0);
        due("the last isn't", x.judge(0), 20);
        x.alterRow(4, 2, 0);
        due("the first that isn't", x.judge(0), 5);
        x.alterRow(0, 0, 0);
        due("the first isn't", x.judge(0), 1);
        x.prove(0, 9, 2);
        law(x, "plain shut;");
        due("shut", x.judge(0), 1);
    }

    private static void sheets() {
        says("SHEETS 0 to 3 are rows of bytes (sort 0), shorts (1), ints (2), longs (3) or booleans (4), 40 at most, or missing (at first).");
        DoubledBridge x = new DoubledBridge();
        for (int sheet = 0; sheet < 4; sheet++) {
            due("missing at first", x.item(sheet, 0, 0), NOTHING);
            for (int sort = 0; sort <= 4; sort++) {
                due("sort " + sort, x.sheet(sheet, sort, 40), 1);
                due("the last", x.item(sheet, sort, 39), 0);
                due("behind it", x.item(sheet, sort, 40), OUTSIDE);
            }
        }

        says("A SHEET becomes a row of n of a sort, all 0, or missing (sort -1; n counts nothing then): 1. BAD: no such SHEET, sort, n above"
            + " 40; -14.");
        for (int sheet : NO_PLACE) {
            due("sheet " + sheet, x.sheet(sheet, 0, 1), BAD);
            due("sheet " + sheet + ", to be missing", x.sheet(sheet, -1, 1), BAD);
        }
        for (int sort : new int[] {-2, 5, LEAST_INT, MOST_INT}) {
            due("sort " + sort, x.sheet(0, sort, 1), BAD);
        }
        for (int n : new int[] {41, MOST_INT}) {
            due("n " + n, x.sheet(0, 0, n), BAD);
        }
        for (int n : new int[] {-1, LEAST_INT}) {
            due("n " + n, x.sheet(0, 0, n), BELOW_ZERO);
        }
        due("none of them changed it", x.item(0, 4, 39), 0);
        due("n 0", x.sheet(0, 0, 0), 1);
        due("nothing in it", x.item(0, 0, 0), OUTSIDE);
        due("n 1", x.sheet(0, 0, 1), 1);
        x.write(0, 0, 7);
        due("anew", x.sheet(0, 0, 1), 1);
        due("all 0", x.item(0, 0, 0), 0);
        for (int n : new int[] {0, 41, -1, LEAST_INT, MOST_INT}) {
            x.sheet(1, 2, 3);
            due("missing, n " + n, x.sheet(1, -1, n), 1);
            due("it is", x.item(1, 2, 0), NOTHING);
        }
    }

    private static void writes() {
        says("Item i becomes v, narrowed to its sort (booleans: whether it is not 0): 1. BAD: no such SHEET; -11; -12.");
        int[] v = {127, 128, -128, -129, 255, 256, 32767, 32768, -32768, -32769, 65535, 65536, MOST_INT, LEAST_INT, 0, 1, -1, 2};
        for (int sort = 0; sort <= 4; sort++) {
            DoubledBridge x = new DoubledBridge();
            x.sheet(3, sort, v.length);
            for (int i = 0; i < v.length; i++) {
                due("write", x.write(3, i, v[i]), 1);
            }
            for (int i = 0; i < v.length; i++) {
                int want = sort == 0 ? (byte) v[i] : sort == 1 ? (short) v[i] : sort == 4 ? (v[i] == 0 ? 0 : 1) : v[i];
                due(v[i] + " narrowed to sort " + sort, x.item(3, sort, i), want);
            }
        }
        DoubledBridge x = new DoubledBridge();
        x.sheet(0, 2, 3);
        for (int sheet : NO_PLACE) {
            due("sheet " + sheet, x.write(sheet, 0, 1), BAD);
        }
        due("missing", x.write(1, 0, 1), NOTHING);
        due("missing, wherever", x.write(1, -1, 1), NOTHING);
        for (int i : new int[] {-1, 3, 40, LEAST_INT, MOST_INT}) {
            due("item " + i, x.write(0, i, 1), OUTSIDE);
        }
        due("the last", x.write(0, 2, 5), 1);
        due("it", x.item(0, 2, 2), 5);
        due("the one ahead", x.item(0, 2, 1), 0);
        x.sheet(0, 2, 0);
        due("none to write", x.write(0, 0, 1), OUTSIDE);
    }

    private static void items() {
        says("Item i, taken for a sort (0 to 4; of longs the lowest 32 bits; of booleans 1, 0). BAD: no such SHEET, sort; -13; -11; -12. (An"
            + " item may be as low as these, too.)");
        DoubledBridge x = new DoubledBridge();
        for (int sort = 0; sort <= 4; sort++) {
            x.sheet(0, sort, 2);
            for (int as = 0; as <= 4; as++) {
                due("of sort " + sort + " as " + as, x.item(0, as, 1), as == sort ? 0 : OTHER_SORT);
                due("outside, too", x.item(0, as, 2), as == sort ? OUTSIDE : OTHER_SORT);
            }
        }
        for (int sheet : NO_PLACE) {
            due("sheet " + sheet, x.item(sheet, 0, 0), BAD);
        }
        for (int sort : new int[] {-1, 5, LEAST_INT, MOST_INT}) {
            due("sort " + sort, x.item(0, sort, 0), BAD);
            due("sort " + sort + " of a missing one", x.item(1, sort, 0), BAD);
        }
        for (int as = 0; as <= 4; as++) {
            due("missing, as " + as, x.item(1, as, 9), NOTHING);
        }
        x.sheet(2, 2, 4);
        int[] low = {BAD, NOTHING, OUTSIDE, OTHER_SORT};
        for (int i = 0; i < 4; i++) {
            x.write(2, i, low[i]);
            due("as low as these", x.item(2, 2, i), low[i]);
        }
        for (int i : new int[] {-1, 4, 40, LEAST_INT, MOST_INT}) {
            due("item " + i, x.item(2, 2, i), OUTSIDE);
        }
        x.sheet(2, 3, 2);
        x.write(2, 0, -1);
        x.write(2, 1, LEAST_INT);
        due("a long -1", x.item(2, 3, 0), -1);
        due("a long below 0", x.item(2, 3, 1), LEAST_INT);
    }

    /** Five bridges, one who has 40 and one who has 0, a sheet with the bytes told. */
    private static DoubledBridge walker(int... to) {
        DoubledBridge x = with(five(), 40, 0);
        x.sheet(0, 0, to.length);
        for (int i = 0; i < to.length; i++) {
            x.write(0, i, to[i]);
        }
        return x;
    }

    private static void walks() {
        says("n (0 to 20) items of a SHEET taken for bytes, from item i on, are BRIDGES that a PERSON crosses, one behind the other (those"
            + " that cross() refuses are left out): how many were crossed.");
        DoubledBridge x = walker(0, 2, 5, -1, 127, -128, 9, 1);
        due("n 0", x.walks(0, 0, 0, 0), 0);
        due("n 0, from anywhere", x.walks(0, 0, -5, 0) + x.walks(0, 0, 8, 0) + x.walks(0, 0, MOST_INT, 0), 0);
        due("those that are no bridges are left out", x.walks(0, 0, 0, 8), 3);
        due("the purse: 72, 211 less 1, 404", x.personOf(0, 0), 404);
        due("CROSSED", x.personOf(0, 1), 3);
        due("LAST", x.personOf(0, 2), 1);
        due("only from item i on", x.walks(0, 0, 7, 1), 1);
        due("none that can be", x.walks(1, 0, 0, 8), 0);
        due("CROSSED by that one", x.personOf(1, 1), 0);
        x = walker(0, 0, 0, 0, 0, 0, 0, 0, 0, 0, 0, 0, 0, 0, 0, 0, 0, 0, 0, 0, 0);
        due("n 20", x.walks(0, 0, 1, 20), 20);
        due("CROSSED", x.personOf(0, 1), 20);
        x.sheet(3, 0, 1);
        due("of the last SHEET", x.walks(0, 3, 0, 1), 1);
        x = walker(0, 0, 0, 1);
        x.purse(0, 6);
        due("what can't be crossed is left out", x.walks(0, 0, 0, 4), 2);
        law(x, "plain shut;");
        x.purse(0, 40);
        due("what is shut is left out", x.walks(0, 0, 0, 4), 1);
    }

    private static void walksOutside() {
        says("BAD: no such PERSON, SHEET, n; -13; -11 (of n 0, too); -12: what stood ahead was crossed.");
        DoubledBridge x = walker(0, 0, 0);
        x.sheet(2, 2, 3);
        for (int p : new int[] {-1, 2, 6, LEAST_INT, MOST_INT}) {
            due("person " + p, x.walks(p, 0, 0, 1), BAD);
        }
        for (int sheet : NO_PLACE) {
            due("sheet " + sheet, x.walks(0, sheet, 0, 1), BAD);
        }
        for (int n : new int[] {-1, 21, LEAST_INT, MOST_INT}) {
            due("n " + n, x.walks(0, 0, 0, n), BAD);
        }
        due("missing", x.walks(0, 1, 0, 1), NOTHING);
        due("missing, n 0", x.walks(0, 1, 0, 0), NOTHING);
        for (int sort = 1; sort <= 4; sort++) {
            x.sheet(2, sort, 3);
            due("of sort " + sort, x.walks(0, 2, 0, 1), OTHER_SORT);
            due("of sort " + sort + ", outside", x.walks(0, 2, 9, 1), OTHER_SORT);
        }
        due("no one CROSSED", x.personOf(0, 1), 0);
        due("from ahead of the first", x.walks(0, 0, -1, 4), OUTSIDE);
        due("no one CROSSED", x.personOf(0, 1), 0);
        due("from behind the last", x.walks(0, 0, 3, 1), OUTSIDE);
        due("from far behind", x.walks(0, 0, MOST_INT, 20), OUTSIDE);
        due("from far ahead", x.walks(0, 0, LEAST_INT, 20), OUTSIDE);
        due("no one CROSSED", x.personOf(0, 1), 0);
        due("over the end by one", x.walks(0, 0, 0, 4), OUTSIDE);
        due("what stood ahead was crossed", x.personOf(0, 1), 3);
        due("the purse", x.personOf(0, 0), 264);
        due("to the end", x.walks(0, 0, 2, 1), 1);
        due("over the end by many", x.walks(0, 0, 2, 20), OUTSIDE);
        due("what stood ahead was crossed", x.personOf(0, 1), 5);
        x.sheet(0, 0, 0);
        due("of none", x.walks(0, 0, 0, 1), OUTSIDE);
        due("of none, n 0", x.walks(0, 0, 0, 0), 0);
    }

    private static void shelves() {
        says("SHELVES 0 to 3 hold a BRIDGE (by its number; nothing, if there is no such one at the time), a SHEET's row, or nothing (at"
            + " first).");
        DoubledBridge x = road(PLAIN, 1, 1, 1);
        x.keep();
        x.bridge(EGG, 1, 1, 1);
        for (int shelf = 0; shelf < 4; shelf++) {
            due("nothing at first", x.taken(shelf, 0), NOTHING);
            due("a bridge", x.shelf(shelf, 0, 1), 1);
            due("it", x.taken(shelf, 0), 1);
        }
        x.again();
        for (int shelf = 0; shelf < 4; shelf++) {
            due("no such one at the time", x.taken(shelf, 0), NOTHING);
            due("nor as a row", x.taken(shelf, 10), NOTHING);
            due("nor does it act", x.act(shelf, 0, 5), 0);
        }
        x.bridge(STREAM, 1, 1, 1);
        due("there is one again", x.taken(3, 2), 1);

        says("A SHELF holds BRIDGE n (what 0), the row that SHEET n has now (1; nothing, if missing), nothing (2, n any): 1. BAD: no such"
            + " SHELF, what, thing.");
        for (int shelf : NO_PLACE) {
            due("shelf " + shelf, x.shelf(shelf, 2, 0), BAD);
        }
        for (int what : new int[] {-1, 3, LEAST_INT, MOST_INT}) {
            due("what " + what, x.shelf(0, what, 0), BAD);
        }
        for (int b : new int[] {-1, 2, 9, LEAST_INT, MOST_INT}) {
            due("bridge " + b, x.shelf(0, 0, b), BAD);
        }
        for (int sheet : NO_PLACE) {
            due("sheet " + sheet, x.shelf(0, 1, sheet), BAD);
        }
        due("the bridge stays there", x.taken(0, 0), 1);
        x.sheet(3, 0, 5);
        due("a row", x.shelf(0, 1, 3), 1);
        x.sheet(3, 1, 6);
        due("the row that the sheet had", x.taken(0, 10), 5);
        x.sheet(3, -1, 0);
        due("though it is missing now", x.taken(0, 10), 5);
        due("missing: nothing", x.shelf(0, 1, 3), 1);
        due("nothing", x.taken(0, 10), NOTHING);
        for (int n : new int[] {0, -1, 99, LEAST_INT, MOST_INT}) {
            x.shelf(0, 0, 0);
            due("nothing, n " + n, x.shelf(0, 2, n), 1);
            due("nothing", x.taken(0, 0), NOTHING);
        }
    }

    private static void takenThings() {
        says("What a SHELF holds taken for a thing of KIND as (0 to 5, or one under it): its number; for a row of sort as - 10 (as 10 to 14):"
            + " how many items. BAD: no such SHELF, as; -13; -11.");
        DoubledBridge x = road(1, 1, 1, 0, 2, 1, 1, 0, 3, 1, 1, 0, 4, 1, 1, 0, 5, 1, 1, 0);
        // The KINDS, as bits, that a thing of a KIND can be taken for.
        int[] under = {0, 0b000011, 0b000101, 0b001101, 0b010001, 0b110001};
        for (int kind = 1; kind <= 5; kind++) {
            x.shelf(1, 0, kind - 1);
            for (int as = 0; as <= 5; as++) {
                due("kind " + kind + " as " + as, x.taken(1, as), (under[kind] >> as & 1) == 1 ? kind - 1 : OTHER_SORT);
            }
            for (int as = 10; as <= 14; as++) {
                due("kind " + kind + " as " + as, x.taken(1, as), OTHER_SORT);
            }
        }
        for (int sort = 0; sort <= 4; sort++) {
            int n = sort == 0 ? 0 : sort == 1 ? 40 : sort;
            x.sheet(0, sort, n);
            x.shelf(2, 1, 0);
            for (int as = 10; as <= 14; as++) {
                due("sort " + sort + " as " + as, x.taken(2, as), as == 10 + sort ? n : OTHER_SORT);
            }
            for (int as = 0; as <= 5; as++) {
                due("sort " + sort + " as " + as, x.taken(2, as), OTHER_SORT);
            }
        }
        for (int as : new int[] {-1, 6, 9, 15, LEAST_INT, MOST_INT}) {
            due("as " + as, x.taken(1, as), BAD);
            due("a row as " + as, x.taken(2, as), BAD);
            due("nothing as " + as, x.taken(0, as), BAD);
        }
        for (int shelf : NO_PLACE) {
            due("shelf " + shelf, x.taken(shelf, 0), BAD);
        }
        for (int as : new int[] {0, 5, 10, 14}) {
            due("nothing as " + as, x.taken(0, as), NOTHING);
        }
    }

    private static void acts() {
        says("An ACT (0 to 3) of the thing on a SHELF, with x. 0, and no TRACE then: no such SHELF, act, nothing, a row.");
        DoubledBridge x = road(PLAIN, 1, 1, 0, PLAIN, 1, 1, 3);
        x.shelf(3, 0, 1);
        x.sheet(0, 0, 3);
        x.shelf(1, 1, 0);
        int[] answer = {18, 36, 2, 39};
        for (int act = 0; act <= 3; act++) {
            due("act " + act, x.act(3, act, 5), answer[act]);
        }
        for (int act : new int[] {-1, 4, LEAST_INT, MOST_INT}) {
            untraced("act " + act, x, 3, act);
        }
        for (int shelf : NO_PLACE) {
            untraced("shelf " + shelf, x, shelf, 0);
        }
        untraced("nothing", x, 0, 0);
        untraced("a row", x, 1, 0);
    }

    private static void untraced(String call, DoubledBridge x, int shelf, int act) {
        x.act(3, 3, 5);
        due("bodies ahead", x.many(6), 4);
        due(call, x.act(shelf, act, 5), 0);
        due("no bodies", x.many(6), 0);
        due("no first", x.trace(0), NONE);
    }

    /** What an act answers: of a bridge of a KIND, a FEAST and the number, with x. */
    private static int acted(int kind, int number, int feast, int act, int v) {
        DoubledBridge x = new DoubledBridge();
        for (int b = 0; b < number; b++) {
            x.bridge(PLAIN, 9, 999, 6);
        }
        x.bridge(kind, 7, 77, feast);
        x.shelf(0, 0, number);
        return x.act(0, act, v);
    }

    private static void bodies() {
        says("A BRIDGE is held as a thing of its KIND; n: its number, a: its FEAST. BODIES, each with its number: bridge: 10 makes: x + n."
            + " 11 takes: makes(x) * 2. 12 shares: x by (a - n), the rest away");
        says("13 tells: takes(x) ^ a. plain: 20 makes: super.makes(x) * 3. stream: 30 takes: super.takes(x) - a. egg: 40 shares:"
            + " super.shares(x + 1). mill: 50 makes: super.makes(x) ^ n. 51 tells: super.tells(x) + shares(n). market: 60 takes: 0 -"
            + " super.takes(x). 61 shares: super.shares(x) + makes(a).");
        for (int n = 0; n < 9; n += 2) {
            for (int a = 0; a <= 6; a++) {
                for (int x : new int[] {0, 1, -1, 6, -7, 100, MOST, MOST_INT, LEAST_INT}) {
                    bodiesOf(n, a, x);
                }
            }
        }
    }

    private static void bodiesOf(int n, int a, int x) {
        int takes = (x + n) * 2;
        int mill = ((x + n) ^ n) * 2 - a;
        boolean parts = a == n;
        int by = parts ? 1 : a - n;
        int[][] want = {{(x + n) * 3, (x + n) * 3 * 2, x / by, (x + n) * 3 * 2 ^ a}, {x + n, takes - a, x / by, takes - a ^ a},
            {(x + n) ^ n, mill, x / by, (mill ^ a) + n / by}, {x + n, takes, (x + 1) / by, takes ^ a},
            {x + n, 0 - takes, (x + 1) / by + a + n, 0 - takes ^ a}};
        for (int kind = 1; kind <= 5; kind++) {
            for (int act = 0; act <= 3; act++) {
                boolean isParted = parts && (act == 2 || act == 3 && kind == MILL);
                due("act " + act + " of kind " + kind + ", n " + n + ", a " + a + ", x " + x, acted(kind, n, a, act, x),
                    isParted ? BY_ZERO : want[kind - 1][act]);
            }
        }
    }

    private static void wraps() {
        says("ACTS of a thing by its KIND, with a number x (ints that wrap): 0 makes, 1 takes, 2 shares, 3 tells.");
        due("10: x + n", acted(STREAM, 1, 3, 0, MOST_INT), LEAST_INT);
        due("11: times 2", acted(EGG, 0, 3, 1, 1 << 30), LEAST_INT);
        due("20: times 3", acted(PLAIN, 0, 3, 0, MOST_INT), MOST_INT - 2);
        due("30: less a", acted(STREAM, 1, 3, 1, (1 << 30) - 1), MOST_INT - 2);
        due("40: x + 1", acted(EGG, 1, 2, 2, MOST_INT), LEAST_INT);
        due("51: and shares", acted(MILL, 2, 3, 3, 1 << 30), LEAST_INT);
        due("60: 0 less that", acted(MARKET, 1, 3, 1, (1 << 30) - 1), LEAST_INT);
        due("61: and makes", acted(MARKET, 1, 2, 2, MOST_INT - 1), LEAST_INT + 2);
        due("12: by -1", acted(PLAIN, 1, 0, 2, LEAST_INT), LEAST_INT);
        due("the least x", acted(STREAM, 0, 3, 0, LEAST_INT), LEAST_INT);
        due("below 0 is no refusal", acted(STREAM, 0, 3, 0, -1), -1);
    }

    private static void parts() {
        says("12 shares: x by (a - n), the rest away (-15 if these are the same; that is all that act() answers then; THE TRACE is that"
            + " act()'s then, too).");
        due("7 by 2", acted(PLAIN, 1, 3, 2, 7), 3);
        due("-7 by 2", acted(PLAIN, 1, 3, 2, -7), -3);
        due("7 by -2", acted(PLAIN, 3, 1, 2, 7), -3);
        due("1 by 6", acted(PLAIN, 0, 6, 2, 1), 0);
        for (int kind : new int[] {PLAIN, STREAM, MILL, EGG, MARKET}) {
            due("the same, kind " + kind, acted(kind, 2, 2, 2, 7), BY_ZERO);
            due("the same, x 0, kind " + kind, acted(kind, 0, 0, 2, 0), BY_ZERO);
        }
        DoubledBridge x = road(MARKET, 1, 1, 0, MILL, 1, 1, 1, MARKET, 1, 1, 2);
        x.shelf(0, 0, 0);
        bodies(x, 2, 5, BY_ZERO, 61, 40, 12);
        x.shelf(0, 0, 1);
        bodies(x, 3, 5, BY_ZERO, 51, 13, 30, 11, 50, 10, 12);
        bodies(x, 1, 5, ((5 + 1) ^ 1) * 2 - 1, 30, 11, 50, 10);
    }

    private static void bodies(DoubledBridge x, int act, int v, int want, int... bodies) {
        due("act " + act, x.act(0, act, v), want);
        due("how many bodies", x.many(6), bodies.length);
        for (int i = 0; i < bodies.length; i++) {
            due("body " + i, x.trace(i), bodies[i]);
        }
        due("no more", x.trace(bodies.length), NONE);
    }

    private static void traces() {
        says("THE TRACE: numbers of the bodies that ran in the latest act(), as they began (left first); the first 30 are kept.");
        DoubledBridge x = road(PLAIN, 1, 1, 6, PLAIN, 1, 1, 3);
        due("none at first", x.trace(0), NONE);
        due("many(6) at first", x.many(6), 0);
        x.shelf(0, 0, 1);
        bodies(x, 0, 5, 18, 20, 10);
        bodies(x, 1, 5, 36, 11, 20, 10);
        bodies(x, 2, 5, 2, 12);
        bodies(x, 3, 5, 39, 13, 11, 20, 10);
        x.mend(1, STREAM);
        bodies(x, 0, 5, 6, 10);
        bodies(x, 1, 5, 9, 30, 11, 10);
        bodies(x, 3, 5, 10, 13, 30, 11, 10);
        x.mend(1, MILL);
        bodies(x, 0, 5, 7, 50, 10);
        bodies(x, 2, 5, 2, 12);
        bodies(x, 3, 5, 8, 51, 13, 30, 11, 50, 10, 12);
        x.mend(1, EGG);
        bodies(x, 2, 5, 3, 40, 12);
        bodies(x, 3, 5, 15, 13, 11, 10);
        x.mend(1, MARKET);
        bodies(x, 1, 5, -12, 60, 11, 10);
        bodies(x, 2, 5, 7, 61, 40, 12, 10);
        bodies(x, 3, 5, -12 ^ 3, 13, 60, 11, 10);

        says("THE TRACE's i-th body. NONE.");
        due("the last", x.trace(3), 10);
        for (int i : new int[] {-1, 4, 30, LEAST_INT, MOST_INT}) {
            due("body " + i, x.trace(i), NONE);
        }
    }

    private static void counts() {
        says("How many: what = 0 BRIDGES, 1 PEOPLE, 2 CLAUSES, 3 TALES, 4 ROWS, 5 bytes of THE TAPE, 6 bodies of THE TRACE (those kept, 30 at"
            + " most). BAD: another what.");
        DoubledBridge x = with(five(), 1, 2, 3, 4);
        law(x, "egg free;egg shut;plain dear 7;");
        x.tale(1, 1);
        x.tale(2, 2);
        x.prove(1, 20, 6);
        x.feed(0L, 7);
        x.shelf(0, 0, 3);
        x.act(0, 3, 1);
        int[] many = {5, 4, 3, 2, 6, 7, 7};
        for (int what = 0; what <= 6; what++) {
            due("many(" + what + ")", x.many(what), many[what]);
        }
        for (int what : new int[] {-1, 7, LEAST_INT, MOST_INT}) {
            due("many(" + what + ")", x.many(what), BAD);
        }
    }

    private static void kept() {
        says("All but THE TAPE, ROWS, SHEETS, SHELVES, THE TRACE is kept: 1.");
        DoubledBridge x = new DoubledBridge();
        due("nothing at all", x.keep(), 1);
        due("again", x.again(), 0);
        x = with(five(), 20);
        x.day(2);
        x.cross(0, 4);
        law(x, "plain dear 2;");
        x.tale(10, 12);
        due("keep()", x.keep(), 1);
        x.bridge(1, 1, 1, 1);
        x.change(0, 1, 9);
        x.change(1, 2, 9);
        x.change(2, 3, 6);
        x.mend(3, 1);
        x.day(5);
        x.person(7);
        x.cross(0, 0);
        law(x, "bridge shut;plain shut;");
        x.forget();
        x.tale(0, 1);
        x.tale(0, 1);
        feed(x, "egg");
        x.prove(1, 3, 1);
        x.alterRow(0, 1, 1);
        x.sheet(0, 2, 3);
        x.write(0, 1, 7);
        x.shelf(0, 0, 2);
        x.shelf(1, 1, 0);
        x.act(0, 0, 1);

        says("It becomes what was kept latest (which stays): how many BRIDGES. NONE: nothing is kept.");
        due("again()", x.again(), 5);
        due("BRIDGES", x.many(0), 5);
        due("TIMES", x.bridgeOf(0, 1), 2);
        due("TOLL", x.bridgeOf(1, 2), 8);
        due("FEAST", x.bridgeOf(2, 3), 1);
        due("KIND", x.bridgeOf(3, 0), MILL);
        due("the mill on its feast: the DAY", x.bridgeOf(3, 4), 3);
        due("the DAY", x.day(2), 2);
        due("PEOPLE", x.many(1), 1);
        due("PURSE", x.personOf(0, 0), 30);
        due("CROSSED", x.personOf(0, 1), 1);
        due("LAST", x.personOf(0, 2), 4);
        due("CLAUSES", x.many(2), 1);
        due("THE LAW", x.bridgeOf(0, 5), 10);
        due("OPEN", x.bridgeOf(1, 6), 1);
        due("TALES", x.many(3), 1);
        due("the tale", x.fits(PLAIN, 0), 8);
        due("not THE TAPE", x.many(5), 3);
        due("not the SHEETS", x.item(0, 2, 1), 7);
        due("not the SHELVES", x.taken(0, 4), 2);
        due("not the SHELVES with rows", x.taken(1, 12), 3);
        due("not THE TRACE", x.trace(0), 10);
        due("THE TAPE's text", x.law(), -103);
        x.change(0, 1, 7);
        x.day(6);
        x.purse(0, 1);
        x.forget();
        law(x, "");
        due("it stays", x.again(), 5);
        due("TIMES", x.bridgeOf(0, 1), 2);
        due("DAY", x.day(2), 2);
        due("PURSE", x.personOf(0, 0), 30);
        due("TALES", x.many(3), 1);
        due("CLAUSES", x.many(2), 1);
        x.change(0, 1, 5);
        x.keep();
        x.change(0, 1, 6);
        due("the latest", x.again(), 5);
        due("its TIMES", x.bridgeOf(0, 1), 5);
        due("nothing is kept", five().again(), NONE);

        says("(which stays)");
        x = five();
        x.prove(0, 9, 4);
        x.keep();
        x.prove(0, 9, 2);
        x.again();
        due("the ROWS aren't kept", x.many(4), 2);
    }
}
