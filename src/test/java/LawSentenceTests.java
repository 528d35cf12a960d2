/** THE TAPE and THE LAW: each sentence that names a boundary case. */
public final class LawSentenceTests extends Sentences {
    public static void main(String[] args) {
        tape();
        feeds();
        laws();
        clauses();
        deeds();
        conditions();
        conditionsWithin();
        longest();
        signs();
        facts();
        names();
        numbers();
        blanks();
        parentheses();
        faults();
        whatCanStand();
        letters();
        faultsOfNumbers();
        theEnd();
        end();
    }

    /** What law() answers to a text, by an object of its own. */
    private static void reads(String text, int want) {
        due("'" + text + "'", law(five(), text), want);
    }

    /** The place of the FAULT of a text. */
    private static void fault(String text, int place) {
        reads(text, -100 - place);
    }

    /** Whether a condition holds for bridge 1 of three, on DAY 2. */
    private static void holds(String cond, boolean want) {
        DoubledBridge x = road(PLAIN, 3, 7, 4, PLAIN, 5, 40, 6, PLAIN, 1, 1, 1);
        x.day(2);
        due("'" + cond + "' is read", law(x, "bridge if " + cond + " shut;"), 1);
        due("'" + cond + "'", 1 - x.bridgeOf(1, 6), want ? 1 : 0);
    }

    private static void tape() {
        says("THE TAPE takes bytes, 200 at most; law() uses it up.");
        DoubledBridge x = five();
        due("196 bytes", feed(x, times(196, " ")), 196);
        due("4 more", x.feed(0x20202020L, 4), 200);
        due("many(5)", x.many(5), 200);
        due("one more", x.feed(0x20L, 1), FULL);
        due("many(5)", x.many(5), 200);
        due("law()", x.law(), 0);
        due("used up", x.many(5), 0);
        due("it takes again", x.feed(0x20L, 1), 1);
        feed(x, "egg");
        due("a fault", x.law(), -104);
        due("used up by a fault, too", x.many(5), 0);
        due("nothing is left of it", x.law(), 0);
        String clause = "egg free;";
        due("all 200 are read", law(x, times(191, " ") + clause), 1);
        due("it was the egg's law", x.bridgeOf(2, 5), 0);
    }

    private static void feeds() {
        says("n bytes (1 to 8) come to THE TAPE, the lowest of eight first: how many it has. BAD; FULL: more than 200.");
        DoubledBridge x = five();
        for (int n : new int[] {0, 9, -1, LEAST_INT, MOST_INT}) {
            due("n " + n, x.feed(0x20L, n), BAD);
        }
        due("none came", x.many(5), 0);
        due("n 1", x.feed(0x20L, 1), 1);
        due("n 8", x.feed(0x6565726620676765L, 8), 9);
        due("the lowest first, the highest, too", x.law(), -109);
        due("egg free;: 'egg free'", x.feed(0x6565726620676765L, 8), 8);
        due("egg free;: ';'", x.feed(0x3bL, 1), 9);
        due("law()", x.law(), 1);
        due("those above n don't come", x.feed(0x7a7a7a7a7a676765L, 3), 3);
        due("so more must come", x.law(), -103);
        due("one byte of -1", x.feed(-1L, 1), 1);
        due("255 can't stand", x.law(), -100);
        for (int i = 0; i < 24; i++) {
            due("8 more", x.feed(0x2020202020202020L, 8), 8 * i + 8);
        }
        due("1 more", x.feed(0x20L, 1), 193);
        due("more than 200 by one", x.feed(0x2020202020202020L, 8), FULL);
        due("none of them came", x.many(5), 193);
        due("just 200", x.feed(0x20202020202020L, 7), 200);
        for (int n = 1; n <= 8; n++) {
            due("more than 200 by " + n, x.feed(0x20L, n), FULL);
        }
    }

    private static void laws() {
        says("THE TAPE tells THE LAW (in place of all): how many CLAUSES; -100 less its FAULT.");
        DoubledBridge x = five();
        due("two", law(x, "egg free;plain dear 3;"), 2);
        due("many(2)", x.many(2), 2);
        due("free", x.bridgeOf(2, 5), 0);
        due("dear", x.bridgeOf(0, 5), 11);
        due("in place of all", law(x, "stream shut;"), 1);
        due("many(2)", x.many(2), 1);
        due("free no more", x.bridgeOf(2, 5), 5);
        due("dear no more", x.bridgeOf(0, 5), 8);
        due("shut", x.bridgeOf(1, 6), 0);
        due("a fault", law(x, "stream free;egg shut;?"), -121);
        due("then the law stays", x.bridgeOf(1, 6), 0);
        due("all of it", x.bridgeOf(1, 5), 8);
        due("none of what was told", x.bridgeOf(2, 6), 1);
        due("many(2)", x.many(2), 1);
        due("a fault at 0", law(x, "?"), -100);
        due("of nothing", x.law(), 0);
        due("no law then", x.bridgeOf(1, 6), 1);
        due("many(2)", x.many(2), 0);
        due("a new bridge has it, too", law(x, "bridge dear 1;"), 1);
        x.bridge(PLAIN, 1, 1, 0);
        due("TOLL NOW", x.bridgeOf(5, 5), 2);
    }

    private static void clauses() {
        says("TEXT: { KIND DO ; | KIND if COND DO ; }, 8 CLAUSES at most.");
        reads("", 0);
        String eight = times(8, "plain shut;");
        reads("plain shut;", 1);
        reads(times(7, "plain shut;"), 7);
        reads(eight, 8);
        reads(eight + "  ", 8);
        fault(eight + "plain shut;", 88);
        DoubledBridge x = five();
        law(x, "egg if 1=2 shut;" + times(6, "mill free;") + "plain dear 9;");
        due("the eighth counts", x.bridgeOf(0, 5), 17);

        says("KIND: bridge | plain | stream | mill | egg | market.");
        for (String kind : new String[] {"bridge", "plain", "stream", "mill", "egg", "market"}) {
            reads(kind + " shut;", 1);
            reads(kind + " if 1=1 shut;", 1);
            fault(kind + kind + " shut;", 0);
            fault(kind.substring(1) + " shut;", 0);
            fault(kind.substring(0, kind.length() - 1) + " shut;", 0);
        }
        fault("if shut;", 0);
        fault("toll shut;", 0);
    }

    private static void deeds() {
        says("DO: free | dear N (0 to 999) | double | shut.");
        reads("egg free;", 1);
        reads("egg double;", 1);
        reads("egg shut;", 1);
        reads("egg dear 0;", 1);
        reads("egg dear 999;", 1);
        fault("egg dear 1000;", 9);
        fault("egg dear 9999;", 9);
        fault("egg dear;", 8);
        fault("egg dear free;", 9);
        fault("egg free 1;", 9);
        fault("egg double 1;", 11);
        fault("egg shut 1;", 9);
        fault("egg free free;", 9);
        DoubledBridge x = five();
        law(x, "egg dear 0;plain dear 999;");
        due("dear 0", x.bridgeOf(2, 5), 5);
        due("dear 999", x.bridgeOf(0, 5), 1007);
    }

    private static void conditions() {
        says("COND: ALL { or ALL } ALL: ONE { and ONE } ONE: { not } ( VALUE SIGN VALUE | \"(\" COND \")\" )");
        holds("1=1 or 1=1 and 1=2", true);
        holds("(1=1 or 1=1) and 1=2", false);
        holds("1=2 and 1=1 or 1=1", true);
        holds("1=2 and (1=1 or 1=1)", false);
        holds("not 1=2 and 1=2", false);
        holds("not (1=2 and 1=2)", true);
        holds("not 1=1 or 1=1", true);
        holds("not (1=1 or 1=1)", false);
        holds("1=1", true);
        holds("1=2", false);
        holds("not 1=1", false);
        holds("not not 1=1", true);
        holds("not not not 1=1", false);
        holds("not not (not 1=2)", true);
        boolean[] both = {false, true};
        for (boolean a : both) {
            for (boolean b : both) {
                for (boolean c : both) {
                    String one = a ? "1=1" : "1=2";
                    String other = b ? "1=1" : "1=2";
                    String third = c ? "1=1" : "1=2";
                    holds(one + " and " + other, a && b);
                    holds(one + " or " + other, a || b);
                    holds(one + " and " + other + " and " + third, a && b && c);
                    holds(one + " or " + other + " or " + third, a || b || c);
                    holds(one + " and " + other + " or " + third, a && b || c);
                    holds(one + " or " + other + " and " + third, a || b && c);
                    holds("not " + one + " and not (" + other + " or not " + third + ")", !a && !(b || !c));
                }
            }
        }
        holds(times(40, "not ") + "0=0", true);
        holds(times(41, "not ") + "0=0", false);
    }

    private static void conditionsWithin() {
        says("ALL: ONE { and ONE } ONE: { not } ( VALUE SIGN VALUE | \"(\" COND \")\" )");
        // Each way to put and, or between five answers, one within the other.
        for (int way = 0; way < 16; way++) {
            for (int answers = 0; answers < 32; answers++) {
                StringBuilder cond = new StringBuilder();
                for (int i = 0; i < 4; i++) {
                    cond.append((answers >> i & 1) == 1 ? "1=1" : "1=2").append((way >> i & 1) == 1 ? " and " : " or ");
                    cond.append(i < 3 ? "(" : "");
                }
                boolean want = (answers >> 4 & 1) == 1;
                cond.append(want ? "1=1" : "1=2").append(")))");
                for (int i = 3; i >= 0; i--) {
                    boolean one = (answers >> i & 1) == 1;
                    want = (way >> i & 1) == 1 ? one && want : one || want;
                }
                holds(cond.toString(), want);
            }
        }
    }

    private static void longest() {
        says("THE TAPE takes bytes, 200 at most");
        String none = "egg if 0=1" + times(36, "or0=1");
        DoubledBridge x = five();
        due("200 bytes, none holds", law(x, none + "or9=8shut;"), 1);
        due("open", x.bridgeOf(2, 6), 1);
        due("200 bytes, only the last holds", law(x, none + "or9=9shut;"), 1);
        due("shut", x.bridgeOf(2, 6), 0);
        due("a byte more", feed(x, none + "or9=8shut; "), FULL);
    }

    private static void signs() {
        says("SIGN: < | = | >");
        holds("4<5", true);
        holds("5<5", false);
        holds("6<5", false);
        holds("4=5", false);
        holds("5=5", true);
        holds("6=5", false);
        holds("4>5", false);
        holds("5>5", false);
        holds("6>5", true);
        for (int n = 0; n <= 20; n++) {
            holds(n + "<" + (n + 1), true);
            holds(n + ">" + (n + 1), false);
        }
        fault("egg if 4<=5 shut;", 9);
        fault("egg if 4==5 shut;", 9);
        fault("egg if 4;5 shut;", 8);
        fault("egg if 4!5 shut;", 8);
    }

    private static void facts() {
        says("VALUE: N | day | times | toll | feast | number");
        String[] value = {"9", "day", "times", "toll", "feast", "number"};
        // Those of the bridge that holds() asks of.
        int[] is = {9, 2, 5, 40, 6, 1};
        for (int left = 0; left < 6; left++) {
            for (int right = 0; right < 6; right++) {
                holds(value[left] + "<" + value[right], is[left] < is[right]);
                holds(value[left] + "=" + value[right], is[left] == is[right]);
                holds(value[left] + ">" + value[right], is[left] > is[right]);
            }
        }

        says("FACTS: DAY; TIMES, TOLL, FEAST of the BRIDGE as told, and its number.");
        holds("day=2", true);
        holds("times=5", true);
        holds("toll=40", true);
        holds("feast=6", true);
        holds("number=1", true);
        holds("day=times", false);
        holds("number<day and day<times and times<feast and feast<toll", true);
        fault("egg if kind=1 shut;", 7);
        fault("egg if purse=1 shut;", 7);
        DoubledBridge x = road(MILL, 2, 9, 0, MARKET, 2, 9, 0);
        law(x, "mill if times=2 double;market if toll=9 dear 3;");
        due("TIMES as told, not NOW", x.bridgeOf(0, 4), 4);
        due("TOLL as told, not NOW", x.bridgeOf(1, 5), 6);
        x.change(0, 1, 3);
        x.change(1, 2, 8);
        due("as told by now: TIMES", x.bridgeOf(0, 4), 4);
        due("as told by now: TOLL", x.bridgeOf(1, 5), 4);
        law(x, "bridge if feast=day shut;");
        due("on the FEAST", x.bridgeOf(0, 6), 0);
        x.change(0, 3, 5);
        due("off it", x.bridgeOf(0, 6), 1);
        x.day(5);
        due("on it again", x.bridgeOf(0, 6), 0);
        due("the other one off it", x.bridgeOf(1, 6), 1);
    }

    private static void names() {
        says("NAMES are rows of letters a to z, NUMBERS rows of digits (1 to 4), both as long as they go;");
        fault("eggs free;", 0);
        fault("egga free;", 0);
        fault("eggz free;", 0);
        fault("zegg free;", 0);
        fault("egg freea;", 4);
        fault("egg`free;", 3);
        fault("egg{free;", 3);
        fault("Egg free;", 0);
        fault("EGG free;", 0);
        fault("egg_free;", 3);
        fault("\u00e5gg free;", 0);
        fault("egg if (\u00b1=1) free;", 8);
        reads("egg dear 09;", 1);
        reads("egg dear 90;", 1);
        fault("egg dear 1/;", 10);
        fault("egg dear 1:;", 10);
        fault("egg dear /1;", 9);
        fault("egg dear :1;", 9);
        reads("egg dear 1;", 1);
        reads("egg dear 12;", 1);
        reads("egg dear 123;", 1);
        reads("egg dear 0123;", 1);
        fault("egg dear 01234;", 9);
        holds("0123=123", true);
        holds("1234=1234", true);
    }

    private static void numbers() {
        says("N are NUMBERS 0 to 9999.");
        holds("0<1", true);
        holds("0000=0", true);
        holds("9999>9998", true);
        holds("0<9999", true);
        holds("0009=9", true);
        holds("1000>999", true);
        fault("egg if 10000>1 free;", 7);
        fault("egg if 1<10000 free;", 9);
        fault("egg if 1>-1 free;", 9);
        DoubledBridge x = five();
        law(x, "egg dear 0090;");
        due("dear 0090", x.bridgeOf(2, 5), 95);
    }

    private static void blanks() {
        says("blanks (32) part them (where two would run together), and stand elsewhere as one likes.");
        fault("eggfree;", 0);
        fault("egg freeshut;", 4);
        fault("egg if 1=1andday=2 free;", 10);
        fault("egg if dayday=2 free;", 7);
        fault("egg dear 1 2;", 11);
        reads("egg dear5;", 1);
        reads("egg if 1=1and 2=2or 3=3free;", 1);
        reads("egg if not1=2free;", 1);
        reads("egg if not(1=2)and(1=1)free;plain shut;", 1 + 1);
        reads("  egg  if  not  (  day  <  1  )  and  1  =  1  dear  7  ;  ", 1);
        reads("   ", 0);
        fault("e gg free;", 0);
        fault("egg fr ee;", 4);
        for (int other : new int[] {0, 9, 10, 13, 31, 33, 127, 160, 255}) {
            fault("egg" + (char) other + "free;", 3);
            fault((char) other + "egg free;", 0);
            fault("egg free;" + (char) other, 9);
        }
    }

    private static void parentheses() {
        says("At most 3 \"(\" are open within one another.");
        reads("egg if (1=1) free;", 1);
        reads("egg if ((1=1)) free;", 1);
        reads("egg if (((1=1))) free;", 1);
        fault("egg if ((((1=1)))) free;", 10);
        fault("egg if (((((1=1))))) free;", 10);
        reads("egg if (1=1) and (1=1) and (1=1) and (1=1) free;", 1);
        reads("egg if (((1=1))) or (((1=1))) free;", 1);
        reads("egg if (((1=1) and (2=2)) and ((1=1) and (2=2))) free;", 1);
        fault("egg if (((1=1) and ((2=2)))) free;", 20);
        fault("egg if not (not (not (not (1=1)))) free;", 26);
        reads("egg if not (not (not (1=1))) free;", 1);
        reads("egg if (((1=1))) free;egg if (((1=1))) free;", 2);
        holds("(((1=2) or 1=1) and not 1=2)", true);
    }

    private static void faults() {
        says("FAULT: the place (from 0) of the first byte of the first NAME, NUMBER or other byte that can't stand there (a NUMBER"
            + " of more digits, dear above 999, the fourth \"(\", the first NAME of the ninth CLAUSE, too)");
        fault("?", 0);
        fault("12", 0);
        fault(";", 0);
        fault("  free;", 2);
        fault("egg;", 3);
        fault("egg egg free;", 4);
        fault("egg 1;", 4);
        fault("egg (1=1) free;", 4);
        fault("egg if;", 6);
        fault("egg if free;", 7);
        fault("egg if )1=1) free;", 7);
        fault("egg if and 1=1 free;", 7);
        fault("egg if 1;", 8);
        fault("egg if 1 1 free;", 9);
        fault("egg if 1=;", 9);
        fault("egg if 1=<1 free;", 9);
        fault("egg if 1=not 1 free;", 9);
        fault("egg if 1=(1) free;", 9);
        fault("egg if 1=1;", 10);
        fault("egg if 1=1) free;", 10);
        fault("egg if 1=1=1 free;", 10);
        fault("egg if 1=1 not 1=1 free;", 11);
        fault("egg if 1=1 if 1=1 free;", 11);
        fault("egg if 1=1 and free;", 15);
        fault("egg if 1=1 or free;", 14);
        fault("egg if (free;", 8);
        fault("egg if (1=1 or free;", 15);
        fault("egg if ((1=1) free;", 14);
        fault("egg if 1=1 or or 1=1 free;", 14);
        fault("egg if 1=1 and or 1=1 free;", 15);
        fault("egg if (1=1 free;", 12);
        fault("egg if () free;", 8);
        fault("egg if (1=1 ; free;", 12);
        fault("egg if not free;", 11);
        fault("egg if not and 1=1 free;", 11);
        fault("egg free", 8);
        fault("egg free,", 8);
        fault("egg free if 1=1;", 9);
        fault("egg free;;", 9);
        fault("egg free;free;", 9);
        fault("egg free; 7", 10);
        fault("egg dear 1 if 1=1;", 11);
    }

    /** Behind each beginning: what can stand there; all else is the FAULT. */
    private static void whatCanStand() {
        says("the first byte of the first NAME, NUMBER or other byte that can't stand there");
        String kinds = " bridge plain stream mill egg market ";
        String deeds = " free dear double shut ";
        String values = " day times toll feast number 0 7 999 1000 9999 ";
        String one = values + " not ( ";
        String[][] behind = {{"", kinds}, {"egg ", deeds + " if "}, {"egg if ", one}, {"egg if not ", one}, {"egg if not not ", one},
            {"egg if ( ", one}, {"egg if ((", one}, {"egg if (((", values + " not "}, {"egg if 1 ", " < = > "},
            {"egg if day", " < = > "}, {"egg if 1<", values}, {"egg if day = ", values}, {"egg if 1<2 ", deeds + " and or "},
            {"egg if (1<2 ", " and or ) "}, {"egg if (1<2) ", deeds + " and or "}, {"egg if ((1<2) ", " and or ) "},
            {"egg if 1<2 and ", one}, {"egg if 1<2 or ", one}, {"egg if (1<2 or ", one}, {"egg if (1<2 or not ", one},
            {"egg if (((1<2 and ", values + " not "}, {"egg if (((1<2) or ", one}, {"egg free ", " ; "}, {"egg shut", " ; "},
            {"egg double ", " ; "}, {"egg if 1<2 free ", " ; "}, {"egg dear ", " 0 7 999 "}, {"egg dear 7 ", " ; "}, {"egg free;", kinds},
            {"egg free; egg ", deeds + " if "}};
        String[] all = (kinds + deeds + values + " if not and or x bridges 1000 10000 < = > ( ) ; ? , . -").trim().split(" +");
        for (String[] state : behind) {
            for (String word : all) {
                // A blank, lest it runs together with what stands ahead.
                String text = state[0] + (state[0].matches(".*[a-z0-9]") ? " " : "") + word;
                int answer = law(five(), text);
                boolean stands = state[1].contains(" " + word + " ");
                boolean isWhole = stands && word.equals(";");
                due("'" + text + "'", answer, isWhole ? 1 : -100 - (stands ? text.length() : text.length() - word.length()));
            }
        }
    }

    private static void letters() {
        says("NAMES are rows of letters a to z");
        String[][] texts = {{"", "bridge", " free;"}, {"", "plain", " free;"}, {"", "stream", " free;"}, {"", "mill", " free;"},
            {"", "egg", " free;"}, {"", "market", " free;"}, {"egg ", "free", ";"}, {"egg ", "dear", " 1;"}, {"egg ", "double", ";"},
            {"egg ", "shut", ";"}, {"egg ", "if", " 1=1 free;"}, {"egg if ", "not", " 1=1 free;"}, {"egg if 1=1 ", "and", " 1=1 free;"},
            {"egg if 1=1 ", "or", " 1=1 free;"}, {"egg if ", "day", "=1 free;"}, {"egg if 1=", "times", " free;"},
            {"egg if ", "toll", "=1 free;"}, {"egg if ", "feast", "=1 free;"}, {"egg if 1>", "number", " free;"}};
        for (String[] text : texts) {
            String name = text[1];
            reads(text[0] + name + text[2], 1);
            for (int i = 0; i < name.length(); i++) {
                for (String other : new String[] {"", "q", "" + name.charAt(i) + name.charAt(i)}) {
                    fault(text[0] + name.substring(0, i) + other + name.substring(i + 1) + text[2], text[0].length());
                }
            }
        }
    }

    private static void faultsOfNumbers() {
        says("(a NUMBER of more digits, dear above 999, the fourth \"(\", the first NAME of the ninth CLAUSE, too)");
        fault("egg dear 00000;", 9);
        fault("egg dear 123456789012345;", 9);
        fault("egg if 00001=1 free;", 7);
        fault("egg if 1=00001 free;", 9);
        fault("egg if 4294967297=1 free;", 7);
        fault("egg if (1=1 and 2=12345) free;", 18);
        fault("egg dear 1000", 9);
        reads("egg dear 0999;", 1);
        String eight = times(8, "egg free;");
        fault(eight + "egg free;", 72);
        fault(eight + "   egg free;", 75);
        fault(eight + "egg", 72);
        fault(eight + "eggs", 72);
        fault(eight + ";", 72);
        fault(eight + "5", 72);
        fault(times(7, "egg free;") + "egg dear;" + "egg free;", 71);
        fault(times(7, "egg free;") + "egg", 66);
    }

    private static void theEnd() {
        says("or the end (how many bytes there are), if more must come.");
        String[] more = {"egg", "egg ", "egg    ", "egg if", "egg if not", "egg if (", "egg if (((", "egg if 1", "egg if day",
            "egg if 1<", "egg if 1<2", "egg if 1<2 and", "egg if 1<2 or ", "egg if (1<2", "egg if (1<2)", "egg if (1<2 and",
            "egg if 1<2 free", "egg free", "egg free ", "egg dear", "egg dear 9", "egg dear 999 ", "egg double", "egg shut",
            "egg free;egg", "egg free; egg free"};
        for (String text : more) {
            fault(text, text.length());
        }
        fault(times(197, " ") + "egg", 200);
        fault("egg" + times(197, " "), 200);
        String whole = "egg if not(toll=10)and day<5 dear 10;";
        DoubledBridge x = five();
        for (int n = 0; n < whole.length(); n++) {
            int answer = law(x, whole.substring(0, n));
            due("of the first " + n + " bytes none is a law", answer == 0 ? 1 : 0, n == 0 ? 1 : 0);
            due("a fault is at their end or ahead of it", answer >= -100 - n ? 1 : 0, 1);
        }
        due("the whole", law(x, whole), 1);
    }
}
