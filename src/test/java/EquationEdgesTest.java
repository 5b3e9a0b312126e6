/** The boundary cases of 'Terms', the part marked 1, and of promises 1 to 8, a sentence each. */
public final class EquationEdgesTest extends Checks {
    private static final String TWELVE = "abxyzabxyzab";

    // ---- the pad, the fault, the equation

    private static void nothingAtFirst() {
        HeadSplits h = new HeadSplits();
        for (int what : new int[] {0, 1, 2, 30, 31, 32}) {
            due("told " + what, h.told(what), 0);
        }
        dueNode(h, 0, "=");
    }

    private static void signsFrom33To126() {
        for (int sign = 33; sign <= 126; sign++) {
            due("say " + sign, new HeadSplits().say(sign), 1);
        }
        for (int sign : new int[] {32, 127, 0, -33, 'a' + 256, 'a' - 256, 'a' + 65536}) {
            due("say " + sign, new HeadSplits().say(sign), OUTSIDE);
        }
    }

    private static void fortySigns() {
        HeadSplits h = new HeadSplits();
        for (int n = 1; n <= 40; n++) {
            due("say", h.say('b'), n);
        }
        due("say a 41st", h.say('b'), FULL);
        due("told 0", h.told(0), 40);
        due("wipe", h.wipe(), 40);
        due("say, on the empty pad", h.say('b'), 1);
    }

    private static void wipeOfNothing() {
        HeadSplits h = new HeadSplits();
        due("wipe", h.wipe(), 0);
        say(h, "a");
        due("wipe of one", h.wipe(), 1);
        due("wipe again", h.wipe(), 0);
    }

    private static void signsThatCanNotStand() {
        for (int sign = 33; sign <= 126; sign++) {
            boolean symbol = "abxyz".indexOf(sign) >= 0;
            String one = String.valueOf((char) sign);
            due("fault of " + one, fault(one), symbol ? 1 : sign == '=' ? NONE : 0);
            due("fault of =" + one, fault("=" + one), symbol ? NONE : 1);
        }
    }

    private static void theFirstOfManyFaults() {
        due("fault", fault("ab?c=="), 2);
        due("fault, behind =", fault("x==!!"), 2);
        due("fault of a second =, ahead of a thirteenth", fault("=a=" + TWELVE + "a"), 2);
    }

    private static void aThirteenthSymbol() {
        due("fault of 12", fault(TWELVE + "="), NONE);
        due("fault of 13", fault(TWELVE + "x="), 12);
        due("fault of 13, without =", fault(TWELVE + "x"), 12);
        due("fault of none and 12", fault("=" + TWELVE), NONE);
        due("fault of none and 13", fault("=" + TWELVE + "y"), 13);
        due("fault of 12 and 12", fault(TWELVE + "=" + TWELVE), NONE);
        due("fault of 12 and 13", fault(TWELVE + "=" + TWELVE + "z"), 25);
    }

    private static void moreMustCome() {
        due("fault of nothing", fault(""), 0);
        due("fault of a", fault("a"), 1);
        due("fault of 12", fault(TWELVE), 12);
        due("fault of =: nothing more must come", fault("="), NONE);
    }

    private static void faultOfAFullPad() {
        due("fault of 40 a", fault("a".repeat(40)), 12);
        due("fault of = and 39 b", fault("=" + "b".repeat(39)), 13);
        due("fault of 12, = and 27", fault(TWELVE + "=" + "x".repeat(27)), 25);
        due("fault of 40 =", fault("=".repeat(40)), 1);
    }

    private static void loadOfAFault() {
        for (String signs : new String[] {"", "a", "a=b=", "?=", TWELVE + "a=", "=" + TWELVE + "a", "a".repeat(40)}) {
            HeadSplits h = of("x=ab");
            say(h, signs);
            due("load of " + signs, h.load(), NO);
            due("signs stay", h.told(0), signs.length());
            dueNode(h, 0, "x=ab");
        }
    }

    private static void loadEmptiesThePad() {
        HeadSplits h = of("x=ab");
        due("told 0", h.told(0), 0);
        due("fault", h.fault(), 0);
        due("wipe", h.wipe(), 0);
        due("load again", h.load(), NO);
    }

    private static void rowsOfNoneToTwelve() {
        for (String left : new String[] {"", "a", TWELVE}) {
            for (String right : new String[] {"", "y", "y" + TWELVE.substring(1)}) {
                HeadSplits h = of(left + "=" + right);
                due("told 1", h.told(1), left.length());
                due("told 2", h.told(2), right.length());
                dueNode(h, 0, left + "=" + right);
            }
        }
    }

    /** Nothing is left of rows that were there before, though they were longer. */
    private static void loadOfNothing() {
        HeadSplits h = of(TWELVE + "=y" + TWELVE.substring(1));
        load(h, "=");
        due("told 1", h.told(1), 0);
        due("told 2", h.told(2), 0);
        dueNode(h, 0, "=");
        due("solved", h.net(1), 1);
    }

    /** What is told else is not of the pad. */
    private static void loadLeavesTheRest() {
        HeadSplits h = round(new HeadSplits());
        h.need(1, 2, 0);
        spell(h, 2, "ab");
        load(h, "x=a");
        due("told 10", h.told(10), 1);
        due("told 25", h.told(25), 0);
        due("told 32", h.told(32), 2);
    }

    // ---- the machine

    private static void allStayAtFirst() {
        HeadSplits h = new HeadSplits();
        for (int s = 0; s < 3; s++) {
            due("leads " + s + " 0", h.leads(s, 0, s), s);
            due("leads " + s + " 1", h.leads(s, 1, s), s);
        }
    }

    /** From the least to the greatest of each, where it did and where it does. */
    private static void leadsFromEachToEach() {
        for (int k = 0; k < 18; k++) {
            HeadSplits h = new HeadSplits();
            int state = k % 3, letter = k / 3 % 2, to = k / 6;
            String call = "leads " + state + " " + letter + " " + to;
            due(call, h.leads(state, letter, to), state);
            due(call + " again", h.leads(state, letter, to), to);
            for (int other = 0; other < 6; other++) {
                boolean same = other == 3 * letter + state;
                due("told " + (10 + other), h.told(10 + other), same ? to : other % 3);
            }
        }
    }

    private static void leadsUnknown() {
        HeadSplits h = new HeadSplits();
        for (int n : new int[] {-1, 3, 6, Integer.MIN_VALUE, Integer.MAX_VALUE}) {
            due("leads " + n + " 0 1", h.leads(n, 0, 1), UNKNOWN);
            due("leads 0 " + n + " 1", h.leads(0, n, 1), UNKNOWN);
            due("leads 0 0 " + n, h.leads(0, 0, n), UNKNOWN);
        }
        due("leads 0 2 1", h.leads(0, 2, 1), UNKNOWN);
    }

    /** By a, then b, from 0: 1, then 2; by b, then a: 0, then 1. */
    private static void lettersOneByOne() {
        HeadSplits h = machine(new HeadSplits(), 1, 1, 2, 0, 2, 2);
        h.need(0, 0, 4);
        spell(h, 0, "ab");
        due("ab leads from 0 to 2", h.fits(), 0);
        h.clear(0);
        spell(h, 0, "ba");
        due("ba leads from 0 to 1", h.fits(), 1);
        h.need(0, 0, 2);
        due("ba leads from 0 to 1", h.fits(), 0);
    }

    // ---- needs and short words

    private static void sevenAtFirst() {
        HeadSplits h = new HeadSplits();
        for (int k = 0; k < 9; k++) {
            due("need " + k / 3 + " " + k % 3 + " 7", h.need(k / 3, k % 3, 7), 7);
        }
    }

    /** Each set, of each, alone. */
    private static void needOfEach() {
        for (int k = 0; k < 9; k++) {
            for (int set = 0; set < 8; set++) {
                HeadSplits h = new HeadSplits();
                due("need", h.need(k / 3, k % 3, set), 7);
                due("need again", h.need(k / 3, k % 3, 7 - set), set);
                for (int other = 0; other < 9; other++) {
                    due("told " + (20 + other), h.told(20 + other), other == k ? 7 - set : 7);
                }
            }
        }
    }

    private static void needOutside() {
        HeadSplits h = new HeadSplits();
        for (int set : new int[] {-1, 8, 15, -8, Integer.MIN_VALUE, Integer.MAX_VALUE}) {
            due("need 2 2 " + set, h.need(2, 2, set), OUTSIDE);
        }
        due("told 28", h.told(28), 7);
    }

    private static void needUnknown() {
        HeadSplits h = new HeadSplits();
        for (int n : new int[] {-1, 3, 9, Integer.MIN_VALUE, Integer.MAX_VALUE}) {
            due("need " + n + " 0 1", h.need(n, 0, 1), UNKNOWN);
            due("need 0 " + n + " 1", h.need(0, n, 1), UNKNOWN);
        }
    }

    /** A machine by which words lead from each state to each: still there is none to no state. */
    private static void needOfNone() {
        for (int k = 0; k < 9; k++) {
            HeadSplits h = machine(new HeadSplits(), 1, 2, 0, 1, 0, 2);
            h.need(k / 3, k % 3, 0);
            for (int v = 0; v < 3; v++) {
                due("brief " + v + " -1", h.brief(v, -1), v == k / 3 ? NONE : 0);
            }
            h.need(k / 3, k % 3, 7);
            due("brief, hopeless no more", h.brief(k / 3, -1), 0);
        }
    }

    private static void hopelessIsTold() {
        HeadSplits h = new HeadSplits();
        h.need(0, 2, 3);
        for (int i : new int[] {-1, 0, 1, -2, Integer.MIN_VALUE, Integer.MAX_VALUE}) {
            due("brief 0 " + i, h.brief(0, i), NONE);
        }
    }

    /** Each state may be led as its need has it, but not all by one word. */
    private static void hopelessTogether() {
        HeadSplits h = round(new HeadSplits());
        h.need(0, 0, 2);
        dueBrief(h, 0, "a");
        h.need(0, 1, 2);
        due("0 to 1, 1 to 1", h.brief(0, -1), NONE);
        h.need(0, 0, 7);
        dueBrief(h, 0, "");
    }

    private static void shortWordIsEmpty() {
        HeadSplits h = round(new HeadSplits());
        dueBrief(h, 0, "");
        needAll(h, 1, 1, 2, 4);
        dueBrief(h, 1, "");
        due("brief 1 0", h.brief(1, 0), NONE);
    }

    private static void shortWordIsTheFirstByLetters() {
        // both letters lead from 0 to 1; from 1 only b to 2; so ab, bb
        HeadSplits h = machine(new HeadSplits(), 1, 1, 2, 1, 2, 2);
        h.need(2, 0, 2);
        dueBrief(h, 2, "a");
        h.need(2, 0, 4);
        dueBrief(h, 2, "ab");
        // from 1 only a to 2: aa, ba
        machine(h, 1, 2, 2, 1, 1, 2);
        dueBrief(h, 2, "aa");
        // only b to 1, both on to 2: ba, bb
        machine(h, 0, 2, 2, 1, 2, 2);
        dueBrief(h, 2, "ba");
    }

    /** b leads at once, a by a way: one letter is shorter than two, though it is behind by letters. */
    private static void shortWordIsTheShortest() {
        HeadSplits h = machine(new HeadSplits(), 1, 2, 2, 2, 1, 2);
        h.need(0, 0, 4);
        dueBrief(h, 0, "b");
    }

    private static void theLongestShortWord() {
        HeadSplits h = longShort(new HeadSplits());
        StringBuilder word = new StringBuilder();
        for (int i = 0; i < 8; i++) {
            word.append((char) ('a' + h.brief(2, i)));
        }
        dueBrief(h, 2, word.toString());
        due("8 letters", h.brief(2, -1), 8);
        spell(h, 2, word.toString());
        due("it is as its need has it", h.fits(), 0);
    }

    private static void briefOfNoSuchLetter() {
        HeadSplits h = round(new HeadSplits());
        h.need(0, 0, 4);
        dueBrief(h, 0, "aa");
        for (int i : new int[] {2, 3, -2, -3, Integer.MIN_VALUE, Integer.MAX_VALUE}) {
            due("brief 0 " + i, h.brief(0, i), NONE);
        }
    }

    private static void briefUnknown() {
        for (int n : new int[] {-1, 3, Integer.MIN_VALUE, Integer.MAX_VALUE}) {
            due("brief " + n + " -1", new HeadSplits().brief(n, -1), UNKNOWN);
        }
    }

    public static void main(String[] args) {
        sentence("none at all, at first; 1: no SYMBOLS, all WORDS are empty", EquationEdgesTest::nothingAtFirst);
        sentence("codes 33 to 126; 2: OUTSIDE", EquationEdgesTest::signsFrom33To126);
        sentence("a PAD of up to 40 signs; 2: FULL", EquationEdgesTest::fortySigns);
        sentence("3: how many there were", EquationEdgesTest::wipeOfNothing);
        sentence("THE FAULT: a sign that can not stand there; 4: NONE", EquationEdgesTest::signsThatCanNotStand);
        sentence("THE FAULT: the first sign", EquationEdgesTest::theFirstOfManyFaults);
        sentence("THE FAULT: a thirteenth SYMBOL, too", EquationEdgesTest::aThirteenthSymbol);
        sentence("THE FAULT: the number of signs, if more must come", EquationEdgesTest::moreMustCome);
        sentence("THE FAULT of a full PAD", EquationEdgesTest::faultOfAFullPad);
        sentence("5: NO, there is a FAULT", EquationEdgesTest::loadOfAFault);
        sentence("5: the PAD, which is empty then", EquationEdgesTest::loadEmptiesThePad);
        sentence("rows of none to 12 SYMBOLS each; 5: SYMBOLS", EquationEdgesTest::rowsOfNoneToTwelve);
        sentence("5: the EQUATION is that of the PAD", EquationEdgesTest::loadOfNothing);
        sentence("5: the EQUATION, and no more", EquationEdgesTest::loadLeavesTheRest);
        sentence("all stay, at first", EquationEdgesTest::allStayAtFirst);
        sentence("6: where it did", EquationEdgesTest::leadsFromEachToEach);
        sentence("6: UNKNOWN, both, and where", EquationEdgesTest::leadsUnknown);
        sentence("by its LETTERS, one by one", EquationEdgesTest::lettersOneByOne);
        sentence("a set; all, 7, at first", EquationEdgesTest::sevenAtFirst);
        sentence("7: which it was", EquationEdgesTest::needOfEach);
        sentence("7: OUTSIDE, 0 to 7", EquationEdgesTest::needOutside);
        sentence("7: UNKNOWN, both", EquationEdgesTest::needUnknown);
        sentence("0: there is none", EquationEdgesTest::needOfNone);
        sentence("8: NONE, it is HOPELESS", EquationEdgesTest::hopelessIsTold);
        sentence("HOPELESS, if no WORD at all is as its NEED has it", EquationEdgesTest::hopelessTogether);
        sentence("SHORT word: the empty one", EquationEdgesTest::shortWordIsEmpty);
        sentence("SHORT word: of as short the first by letters", EquationEdgesTest::shortWordIsTheFirstByLetters);
        sentence("SHORT word: of those that are, the shortest", EquationEdgesTest::shortWordIsTheShortest);
        sentence("8: how many LETTERS (i = -1), the i-th", EquationEdgesTest::theLongestShortWord);
        sentence("8: NONE, there is no such one", EquationEdgesTest::briefOfNoSuchLetter);
        sentence("8: UNKNOWN", EquationEdgesTest::briefUnknown);
        endWith("the edges of promises 1 to 8 are as due");
    }
}
