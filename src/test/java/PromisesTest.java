/** Each promise by its number: ordinary inputs, edges, wrong inputs; answers worked out by hand. */
public final class PromisesTest extends Checks {
    private static void newObject() {
        about("promise 1");
        HeadSplits h = new HeadSplits();
        due("signs", h.told(0), 0);
        due("left", h.told(1), 0);
        due("right", h.told(2), 0);
        for (int k = 0; k < 6; k++) {
            due("all stay", h.told(10 + k), k % 3);
        }
        for (int k = 0; k < 9; k++) {
            due("all are free", h.told(20 + k), 7);
        }
        for (int v = 0; v < 3; v++) {
            due("words are empty", h.told(30 + v), 0);
        }
        due("fits", h.fits(), 0);
        due("nodes", h.net(0), 1);
        due("constants", HeadSplits.UNKNOWN, -1);
        due("constants", HeadSplits.OUTSIDE, -2);
        due("constants", HeadSplits.STATE, -3);
        due("constants", HeadSplits.FULL, -4);
        due("constants", HeadSplits.NO, -5);
        due("constants", HeadSplits.NONE, -6);
    }

    private static void saying() {
        about("promise 2");
        HeadSplits h = new HeadSplits();
        for (int sign : new int[] {32, 127, 0, -1, 97 + 256, Integer.MAX_VALUE, Integer.MIN_VALUE}) {
            due("say " + sign, h.say(sign), OUTSIDE);
        }
        due("signs", h.told(0), 0);
        due("say 33", h.say(33), 1);
        due("say 126", h.say(126), 2);
        for (int n = 3; n <= 40; n++) {
            due("say a", h.say('a'), n);
        }
        due("say a 41st", h.say('a'), FULL);
        due("say 32, on a full pad", h.say(32), OUTSIDE);
        due("signs", h.told(0), 40);
    }

    private static void wiping() {
        about("promise 3");
        HeadSplits h = new HeadSplits();
        due("wipe", h.wipe(), 0);
        say(h, "ab!");
        due("wipe", h.wipe(), 3);
        due("wipe", h.wipe(), 0);
        load(h, "x=a");
        say(h, "zz");
        due("wipe", h.wipe(), 2);
        due("left stays", h.told(1), 1);
        due("say", h.say('a'), 1);
    }

    private static void faults() {
        about("promise 4");
        due("fault of nothing", fault(""), 0);
        due("fault of =", fault("="), NONE);
        due("fault of abxyz=zyxba", fault("abxyz=zyxba"), NONE);
        due("fault of abx", fault("abx"), 3);
        due("fault of abc=", fault("abc="), 2);
        due("fault of Ab=", fault("Ab="), 0);
        due("fault of aw=", fault("aw="), 1);
        due("fault of a{=", fault("a{="), 1);
        due("fault of a`=", fault("a`="), 1);
        due("fault of a=b=", fault("a=b="), 3);
        due("fault of a==c", fault("a==c"), 2);
        due("fault of 12 and 12", fault("xyzabxyzabxy=xyzabxyzabxy"), NONE);
        due("fault of 13", fault("xyzabxyzabxyz=a"), 12);
        due("fault of 12 and 13", fault("xyzabxyzabxy=xyzabxyzabxya"), 25);
        due("fault of none and 13", fault("=xyzabxyzabxya"), 13);
        due("fault of 12 and c", fault("xyzabxyzabxyc"), 12);
        HeadSplits h = new HeadSplits();
        say(h, "a?");
        due("fault", h.fault(), 1);
        due("fault stays", h.fault(), 1);
        due("signs stay", h.told(0), 2);
    }

    private static void loading() {
        about("promise 5");
        HeadSplits h = new HeadSplits();
        due("load of an empty pad", h.load(), NO);
        say(h, "xa=by!");
        due("load of a fault", h.load(), NO);
        due("signs stay", h.told(0), 6);
        due("left stays", h.told(1), 0);
        h.wipe();
        say(h, "abx=zy");
        due("load", h.load(), 5);
        due("left", h.told(1), 3);
        due("right", h.told(2), 2);
        due("signs", h.told(0), 0);
        due("load again", h.load(), NO);
        due("left stays", h.told(1), 3);
        dueNode(h, 0, "abx=zy");
        say(h, "=");
        due("load of =", h.load(), 0);
        due("left", h.told(1), 0);
        due("right", h.told(2), 0);
        load(h, "xyzabxyzabxy=xyzabxyzabxy");
        due("left", h.told(1), 12);
        due("right", h.told(2), 12);
    }

    private static void leading() {
        about("promise 6");
        HeadSplits h = new HeadSplits();
        due("leads 0 0 2", h.leads(0, 0, 2), 0);
        due("leads 0 0 1", h.leads(0, 0, 1), 2);
        due("leads 2 1 0", h.leads(2, 1, 0), 2);
        due("leads 2 1 0 again", h.leads(2, 1, 0), 0);
        int[] goes = {1, 1, 2, 0, 1, 0};
        for (int n : new int[] {-1, 3, Integer.MIN_VALUE, Integer.MAX_VALUE}) {
            due("leads " + n + " 0 0", h.leads(n, 0, 0), UNKNOWN);
            due("leads 0 0 " + n, h.leads(0, 0, n), UNKNOWN);
        }
        for (int n : new int[] {-1, 2, Integer.MIN_VALUE, Integer.MAX_VALUE}) {
            due("leads 0 " + n + " 0", h.leads(0, n, 0), UNKNOWN);
        }
        for (int k = 0; k < 6; k++) {
            due("told " + (10 + k), h.told(10 + k), goes[k]);
        }
    }

    private static void needing() {
        about("promise 7");
        HeadSplits h = new HeadSplits();
        due("need 1 2 5", h.need(1, 2, 5), 7);
        due("need 1 2 0", h.need(1, 2, 0), 5);
        due("need 2 2 3", h.need(2, 2, 3), 7);
        due("need 0 0 6", h.need(0, 0, 6), 7);
        due("need 1 2 7", h.need(1, 2, 7), 0);
        for (int n : new int[] {-1, 3, Integer.MIN_VALUE, Integer.MAX_VALUE}) {
            due("need " + n + " 0 8", h.need(n, 0, 8), UNKNOWN);
            due("need 0 " + n + " 8", h.need(0, n, 8), UNKNOWN);
        }
        for (int set : new int[] {-1, 8, Integer.MIN_VALUE, Integer.MAX_VALUE}) {
            due("need 0 0 " + set, h.need(0, 0, set), OUTSIDE);
        }
        int[] needs = {6, 7, 7, 7, 7, 7, 7, 7, 3};
        for (int k = 0; k < 9; k++) {
            due("told " + (20 + k), h.told(20 + k), needs[k]);
        }
    }

    private static void briefs() {
        about("promise 8");
        HeadSplits h = new HeadSplits();
        dueBrief(h, 0, "");
        h.need(0, 0, 2);
        due("hopeless", h.brief(0, -1), NONE);
        due("hopeless", h.brief(0, 0), NONE);
        dueBrief(h, 1, "");
        round(h);
        dueBrief(h, 0, "a");
        h.need(0, 1, 1);
        due("1 can not go to 0, if 0 goes to 1", h.brief(0, -1), NONE);
        h.need(0, 1, 7);
        h.need(0, 0, 4);
        dueBrief(h, 0, "aa");
        h.leads(0, 1, 1);
        // from 0: aa, ab (1 stays), ba, bb; the first that leads to 2 is aa; of those to 1: a
        dueBrief(h, 0, "aa");
        h.leads(1, 0, 1);
        due("to 2 no more", h.brief(0, -1), NONE);
        h.leads(1, 1, 2);
        dueBrief(h, 0, "ab");
        h.need(0, 0, 2);
        dueBrief(h, 0, "a");
        h.need(0, 0, 1);
        h.need(0, 2, 1);
        // from 0 back to 0: aba and bba are the shortest; from 2 to 0, too: bba alone
        dueBrief(h, 0, "bba");
        h.need(0, 1, 2);
        // a brings 0 and 1 together, b 1 and 2: no word keeps 1 apart from both
        due("all at once", h.brief(0, -1), NONE);
        h = longShort(new HeadSplits());
        due("the longest short word", h.brief(2, -1), 8);
        due("brief 2 8", h.brief(2, 8), NONE);
        due("brief 2 -2", h.brief(2, -2), NONE);
        for (int i : FAR) {
            due("brief 2 " + i, h.brief(2, i), i == -1 ? 8 : NONE);
            due("brief " + i + " -1", h.brief(i, -1), UNKNOWN);
        }
        due("brief 3 0", h.brief(3, 0), UNKNOWN);
    }

    private static void nets() {
        about("promise 9");
        HeadSplits h = of("x=a");
        int[] want = {4, 1, 3, 2, 0, 1};
        for (int w = 0; w < 6; w++) {
            due("x=a: net " + w, h.net(w), want[w]);
        }
        for (int w : new int[] {-1, 6, Integer.MIN_VALUE, Integer.MAX_VALUE}) {
            due("net " + w, h.net(w), OUTSIDE);
        }
        load(h, "a=b");
        want = new int[] {1, 0, NONE, 0, 0, 0};
        for (int w = 0; w < 6; w++) {
            due("a=b: net " + w, h.net(w), want[w]);
        }
        // lean ahead of all: nothing is left
        load(h, "xxyab=xxyab");
        want = new int[] {1, 1, 0, 0, 0, 4};
        for (int w = 0; w < 6; w++) {
            due("xxyab=xxyab: net " + w, h.net(w), want[w]);
        }
        h.need(2, 0, 0);
        due("hopeless, though in no row", h.net(1), 0);
        due("no end", h.net(2), NONE);
        load(h, "x=a");
        due("hopeless from the start: no move leads to a node", h.net(0), 1);
        due("refuted", h.net(1), 0);
        h = of("xxxxxxxxxxxx=axxxxxxxxxxx");
        due("x in both rows", h.net(5), 23);
        cutByLengths();
        h = of("xyzxy=yxazyx");
        due("not more than 150", h.net(0), 150);
        due("open", h.net(1), 2);
        due("no end", h.net(2), NONE);
    }

    /** Each move puts 12 symbols more into the left row: by the second one it would have 34. */
    private static void cutByLengths() {
        HeadSplits h = of("xxxxxxxxxxxx=ab");
        dueNode(h, 2, "xaxaxaxaxaxaxaxaxaxaxax=b");
        int[] want = {4, 2, NONE, 2, 1, 12};
        for (int w = 0; w < 6; w++) {
            due("net " + w, h.net(w), want[w]);
        }
        due("node 2 6", h.node(2, 6), 1);
        due("node 2 5", h.node(2, 5), 1);
        due("node 0 6", h.node(0, 6), 0);
        due("open: no answer", h.answer(0, -1), STATE);
        // 7 more by each move: 10, 17, 24 symbols, which are not too many; 11, 18, 25, which are
        load(h, "xxxxxxxxbb=aab");
        due("nodes", h.net(0), 6);
        due("24 symbols", h.node(4, 0), 24);
        due("node 2 6", h.node(2, 6), 0);
        due("node 4 6", h.node(4, 6), 1);
        load(h, "xxxxxxxxbbb=aab");
        due("nodes", h.net(0), 4);
        due("node 2 6", h.node(2, 6), 1);
        load(h, "aab=xxxxxxxxbb");
        due("nodes", h.net(0), 6);
        due("24 symbols", h.node(4, 1), 24);
        load(h, "aab=xxxxxxxxbbb");
        due("nodes", h.net(0), 4);
        due("node 2 6", h.node(2, 6), 1);
        // if what would be too long is hopeless, too (2 never leads to 1), it is not by that alone
        load(h, "xxxxxxxxxxxx=ab");
        h.leads(0, 0, 1);
        h.leads(1, 1, 2);
        h.need(0, 0, 2);
        want = new int[] {3, 0, NONE, 2, 0, 12};
        for (int w = 0; w < 6; w++) {
            due("hopeless, too: net " + w, h.net(w), want[w]);
        }
    }

    private static void nodesOfNet() {
        about("promise 10");
        HeadSplits h = of("xab=bax");
        // 0: xab=bax; x nothing: 1: ab=ba; x begins with b: 2: xab=abx; then x nothing: 3: the end
        int[][] want = {
            {3, 3, 0, NONE, NONE, 2, 0},
            {2, 2, 1, 0, 0, 0, 0},
            {3, 3, 1, 0, 1000, 2, 0},
            {0, 0, 2, 2, 0, 0, 0},
        };
        for (int i = 0; i < 4; i++) {
            for (int w = 0; w < 7; w++) {
                due("node " + i + " " + w, h.node(i, w), want[i][w]);
            }
        }
        due("node 4 0", h.node(4, 0), UNKNOWN);
        due("node 4 7", h.node(4, 7), UNKNOWN);
        for (int n : FAR) {
            due("node " + n + " 0", h.node(n, 0), UNKNOWN);
            due("node 0 " + n, h.node(0, n), OUTSIDE);
        }
        due("node 0 7", h.node(0, 7), OUTSIDE);
        // y behind: the move tells the variable
        h = of("a=z");
        due("z is nothing", h.node(1, 4), 200);
        due("z begins with a", h.node(2, 4), 1200);
        h = of("xyzxy=yxazyx");
        due("150 nodes: the last", h.node(149, 3) >= 0 ? 1 : 0, 1);
        due("150 nodes: no more", h.node(150, 3), UNKNOWN);
        int cut = 0;
        for (int i = 0; i < 150; i++) {
            cut += h.node(i, 6);
        }
        due("as many are cut as the net has it", cut, h.net(4));
    }

    private static void symbols() {
        about("promise 11");
        HeadSplits h = of("xab=yzba");
        int[] left = {2, 0, 1, NONE};
        int[] right = {3, 4, 1, 0, NONE};
        for (int k = 0; k < 4; k++) {
            due("symbol 0 0 " + k, h.symbol(0, 0, k), left[k]);
        }
        for (int k = 0; k < 5; k++) {
            due("symbol 0 1 " + k, h.symbol(0, 1, k), right[k]);
        }
        for (int n : FAR) {
            due("symbol 0 0 " + n, h.symbol(0, 0, n), NONE);
            due("symbol 0 " + n + " 0", h.symbol(0, n, 0), OUTSIDE);
            due("symbol " + n + " 2 0", h.symbol(n, 2, 0), UNKNOWN);
        }
        due("symbol 0 2 99", h.symbol(0, 2, 99), OUTSIDE);
        due("symbol of no node", h.symbol(h.net(0), 0, 0), UNKNOWN);
        // both lose alike heads, and x in both goes out of both, begins in both
        load(h, "abxxa=abyxb");
        dueNode(h, 0, "xxa=yxb");
        dueNode(h, 1, "a=yb");
        dueNode(h, 2, "xa=b");
        load(h, "xax=bx");
        dueNode(h, 0, "xax=bx");
        dueNode(h, 1, "a=b");
        dueNode(h, 2, "xabx=bx");
    }

    private static void needsOfNodes() {
        about("promise 12");
        HeadSplits h = round(of("x=aaab"));
        h.need(0, 0, 3);
        h.need(0, 1, 4);
        h.need(1, 2, 4);
        dueNeeds(h, 0, 0, 3, 4, 7);
        dueNeeds(h, 0, 1, 7, 7, 4);
        dueNeeds(h, 0, 2, 7, 7, 7);
        // x is not nothing (1 must go to 2); behind a: the need of 0 is that of 1 now
        dueNode(h, 1, "x=aab");
        dueNeeds(h, 1, 0, 7, 3, 4);
        dueNeeds(h, 1, 1, 7, 7, 4);
        // both letters lead to one state: all needs of the states from which it is reached
        h = of("x=ab");
        h.leads(0, 0, 1);
        h.leads(2, 0, 1);
        h.need(0, 0, 3);
        h.need(0, 1, 6);
        dueNode(h, 1, "=ab");
        h.need(0, 0, 6);
        dueNode(h, 1, "x=b");
        dueNeeds(h, 1, 0, 7, 6, 7);
        h.need(0, 0, 2);
        dueNeeds(h, 1, 0, 7, 2, 7);
        h.need(0, 2, 4);
        due("2 and 4 have none together: no node", h.net(0), 1);
        // nothing: its need is all then
        h = of("xy=a");
        h.need(0, 0, 1);
        h.need(0, 2, 4);
        dueNode(h, 1, "y=a");
        dueNeeds(h, 1, 0, 7, 7, 7);
        // lost so, needs stay
        h = round(of("x=x"));
        h.need(0, 0, 2);
        dueNode(h, 0, "=");
        dueNeeds(h, 0, 0, 2, 7, 7);
        due("solved", h.net(1), 1);
        dueAnswer(h, 0, "a");
        for (int n : FAR) {
            due("needs " + n + " 0 0", h.needs(n, 0, 0), UNKNOWN);
            due("needs 0 " + n + " 0", h.needs(0, n, 0), UNKNOWN);
            due("needs 0 0 " + n, h.needs(0, 0, n), UNKNOWN);
        }
        due("needs 1 0 0", h.needs(1, 0, 0), UNKNOWN);
        due("needs 0 3 0", h.needs(0, 3, 0), UNKNOWN);
        due("needs 0 0 3", h.needs(0, 0, 3), UNKNOWN);
    }

    private static void moves() {
        about("promise 13");
        HeadSplits h = of("xa=yb");
        // x nothing, y nothing, x begins with y, y begins with x
        int[] codes = {0, 100, 1000, 1100};
        // yxa=yb and xa=xyb lose their heads: alike rows, alike needs, met before
        int[] to = {1, 2, 2, 1};
        for (int k = 0; k < 4; k++) {
            due("move 0 " + k + " 0", h.move(0, k, 0), to[k]);
            due("move 0 " + k + " 1", h.move(0, k, 1), codes[k]);
        }
        dueNode(h, 1, "a=yb");
        dueNode(h, 2, "xa=b");
        due("by the first of both moves", h.node(2, 4), 100);
        dueNode(h, 3, "a=b");
        // with a need that is lost by one way only, they are two
        h.need(1, 0, 3);
        due("y is nothing: no need", h.needs(2, 1, 0), 7);
        dueNode(h, 3, "xa=b");
        due("x begins with y: the need stays", h.needs(3, 1, 0), 3);
        due("another node", h.move(0, 2, 0), 3);
        h.need(1, 0, 7);
        load(h, "x=yb");
        // an empty row: only that the other head is nothing
        dueNode(h, 1, "=yb");
        due("moves of =yb", h.node(1, 5), 1);
        due("y is nothing", h.move(1, 0, 1), 100);
        load(h, "=ab");
        due("no move from letters alone", h.node(0, 5), 0);
        load(h, "aa=x");
        due("x, on the right, is nothing", h.move(0, 0, 1), 0);
        due("x, on the right, begins with a", h.move(0, 1, 1), 1000);
        due("to", h.move(0, 1, 0), 2);
        dueNode(h, 2, "a=x");
        for (int n : FAR) {
            due("move " + n + " 0 0", h.move(n, 0, 0), UNKNOWN);
            due("move 0 " + n + " 0", h.move(0, n, 0), NONE);
            due("move 0 0 " + n, h.move(0, 0, n), OUTSIDE);
        }
        due("move 0 2 0", h.move(0, 2, 0), NONE);
        due("move 0 2 2", h.move(0, 2, 2), OUTSIDE);
        due("move of no node", h.move(99, 0, 2), UNKNOWN);
        turns();
    }

    /** x begins with y: where y leads to from each state of which x has a need is told by the turn. */
    private static void turns() {
        HeadSplits h = round(of("xb=ya"));
        h.need(0, 1, 5);
        // x needs something of 1 alone: turns 0, 3, 6; x is not hopeless and y neither, by any of them
        due("moves", h.node(0, 5), 5);
        int[] codes = {100, 1000, 1003, 1006, 1100};
        for (int k = 0; k < 5; k++) {
            due("move 0 " + k + " 1", h.move(0, k, 1), codes[k]);
        }
        dueNode(h, 2, "xb=a");
        dueNeeds(h, 2, 0, 5, 7, 7);
        dueNeeds(h, 2, 1, 7, 1, 7);
        dueNeeds(h, 3, 0, 7, 5, 7);
        dueNeeds(h, 3, 1, 7, 2, 7);
        dueNeeds(h, 4, 0, 7, 7, 5);
        dueNeeds(h, 4, 1, 7, 4, 7);
        // y has no need: one turn; the need of x, which is the other one, stays
        dueNode(h, 5, "b=ya");
        dueNeeds(h, 5, 0, 7, 5, 7);
        dueNeeds(h, 5, 1, 7, 7, 7);
        // a turn that the need of the other one does not have is none
        h.need(1, 1, 6);
        due("moves", h.node(0, 5), 5);
        codes = new int[] {100, 1003, 1006, 1100, 1106};
        for (int k = 0; k < 5; k++) {
            due("move 0 " + k + " 1", h.move(0, k, 1), codes[k]);
        }
        dueNeeds(h, 4, 0, 7, 1, 7);
        dueNeeds(h, 4, 1, 6, 7, 7);
        // x needs something of 0 and of 2: q of 0, and 9 times q of 2; y goes round by none, by 1 or
        // by 2: 0 to 0 and 2 to 2, 0 to 1 and 2 to 0, 0 to 2 and 2 to 1
        h = round(of("xb=ya"));
        h.need(0, 0, 2);
        h.need(0, 2, 3);
        codes = new int[] {100, 1001, 1011, 1018, 1100};
        due("moves", h.node(0, 5), 5);
        for (int k = 0; k < 5; k++) {
            due("move 0 " + k + " 1", h.move(0, k, 1), codes[k]);
        }
        dueNeeds(h, 2, 0, 3, 2, 7);
        dueNeeds(h, 2, 1, 2, 7, 1);
        dueNeeds(h, 3, 0, 7, 3, 2);
        dueNeeds(h, 3, 1, 4, 7, 2);
        dueNeeds(h, 4, 0, 2, 7, 3);
        dueNeeds(h, 4, 1, 1, 7, 4);
    }

    private static void answers() {
        about("promise 14");
        HeadSplits h = of("xab=bax");
        dueAnswer(h, 0, "b");
        dueAnswer(h, 1, "");
        dueAnswer(h, 2, "");
        for (int n : FAR) {
            due("answer " + n + " -1", h.answer(n, -1), UNKNOWN);
            due("answer 0 " + n, h.answer(0, n), n == -1 ? 1 : NONE);
        }
        due("answer 3 0", h.answer(3, 0), UNKNOWN);
        load(h, "x=abbab");
        dueAnswer(h, 0, "abbab");
        load(h, "abyx=xbya");
        due("solved", h.net(1), 1);
        // both sides go on in one another: x has what y has ahead of its own
        load(h, "xabxb=abbayb");
        due("solved", h.net(1), 1);
        due("take", h.take() > 0 ? 1 : 0, 1);
        due("fits", h.fits(), 0);
        load(h, "ax=xb");
        due("refuted", h.net(1), 0);
        due("not solved", h.answer(0, -1), STATE);
        due("not solved, but not known at all", h.answer(3, -1), UNKNOWN);
        // a word that is lost at the end has its short word
        round(h);
        h.need(1, 0, 4);
        load(h, "y=y");
        dueAnswer(h, 1, "aa");
        load(h, "x=ybyb");
        due("y first, by its need, then x begins with it", h.net(1), 1);
        dueAnswer(h, 0, "aabaab");
        dueAnswer(h, 1, "aa");
        h = longShort(of("x=zzzzzzz"));
        due("7 times 8 letters", h.answer(0, -1), 56);
        due("8 letters", h.answer(2, -1), 8);
        for (int i = 0; i < 56; i++) {
            due("answer 0 " + i, h.answer(0, i), h.brief(2, i % 8));
        }
        load(h, "x=zzzzzzzaaaa");
        due("60 letters", h.answer(0, -1), 60);
        load(h, "x=zzzzzzzaaaaa");
        due("solved", h.net(1), 1);
        due("61 letters", h.answer(0, -1), STATE);
        due("of none then", h.answer(2, -1), STATE);
        load(h, "x=aaaazzzzzzz");
        due("60 letters, the last one put ahead a letter", h.answer(0, -1), 60);
        load(h, "x=aaaaazzzzzzz");
        due("solved", h.net(1), 1);
        due("61 letters, by a letter", h.answer(0, -1), STATE);
    }

    private static void spelling() {
        about("promise 15");
        HeadSplits h = new HeadSplits();
        for (int n = 1; n <= 12; n++) {
            due("spell 1 " + n % 2, h.spell(1, n % 2), n);
        }
        due("spell a 13th", h.spell(1, 0), FULL);
        due("spell 1 2", h.spell(1, 2), UNKNOWN);
        due("spell 2 1", h.spell(2, 1), 1);
        due("told 31", h.told(31), 12);
        for (int i = 0; i < 12; i++) {
            due("told " + (200 + i), h.told(200 + i), (i + 1) % 2);
        }
        for (int n : FAR) {
            due("spell " + n + " 0", h.spell(n, 0), UNKNOWN);
            due("spell 0 " + n, h.spell(0, n), UNKNOWN);
        }
        due("spell 3 0", h.spell(3, 0), UNKNOWN);
        due("told 30", h.told(30), 0);
    }

    private static void clearing() {
        about("promise 16");
        HeadSplits h = new HeadSplits();
        h.spell(0, 1);
        h.spell(0, 1);
        h.spell(2, 1);
        due("clear 0", h.clear(0), 2);
        due("clear 0", h.clear(0), 0);
        due("told 30", h.told(30), 0);
        due("told 32", h.told(32), 1);
        due("clear 1", h.clear(1), 0);
        due("clear 3", h.clear(3), UNKNOWN);
        for (int n : FAR) {
            due("clear " + n, h.clear(n), UNKNOWN);
        }
        due("clear 2", h.clear(2), 1);
    }

    private static void taking() {
        about("promise 17");
        HeadSplits h = of("xby=abbab");
        h.spell(2, 1);
        due("take", h.take(), 4);
        due("x and y together", h.told(30) + h.told(31), 4);
        due("told 32", h.told(32), 0);
        due("fits", h.fits(), 0);
        load(h, "ax=bx");
        due("take", h.take(), STATE);
        due("words stay", h.told(30) + h.told(31), 4);
        load(h, "x=abababababa");
        due("take of 11", h.take(), 11);
        due("told 110", h.told(110), 0);
        due("told 109", h.told(109), 1);
        load(h, "xa=abababababaa");
        due("take of 11, again", h.take(), 11);
        load(h, "x=abababababab");
        due("take of 12", h.take(), 12);
        h = longShort(of("x=zz"));
        h.spell(1, 0);
        due("one has 16", h.take(), FULL);
        due("words stay", h.told(30), 0);
        due("words stay", h.told(31), 1);
        load(h, "x=zzzzzzzaaaaa");
        due("not known", h.take(), STATE);
        load(h, "x=zaaaa");
        due("12 and 8", h.take(), 20);
        due("fits", h.fits(), 0);
    }

    private static void fitting() {
        about("promise 18");
        HeadSplits h = round(of("xa=ax"));
        due("nothing fits", h.fits(), 0);
        h.spell(0, 1);
        due("ba is not ab", h.fits(), 2);
        h.need(0, 0, 2);
        due("b stays", h.fits(), 3);
        h.clear(0);
        due("rows alone", h.fits(), 1);
        h.spell(0, 0);
        due("a goes to 1", h.fits(), 0);
        h.need(0, 2, 6);
        due("from 2 too", h.fits(), 1);
        h.need(0, 2, 1);
        due("from 2 too", h.fits(), 0);
        h.need(2, 1, 5);
        due("z, though in no row", h.fits(), 1);
        load(h, "yyyyyyyyyyyy=yyyyyyyyyyyz");
        for (int n = 0; n < 12; n++) {
            h.spell(1, 1);
            h.spell(2, n == 11 ? 0 : 1);
        }
        h.need(2, 1, 7);
        due("the last of 144 is another", h.fits(), 2);
        h.clear(2);
        due("132 and 144", h.fits(), 2);
        for (int n = 0; n < 12; n++) {
            h.spell(2, 1);
        }
        due("144 and 144", h.fits(), 0);
        h.clear(1);
        h.clear(2);
        for (int n = 0; n < 12; n++) {
            h.spell(1, n % 2);
        }
        load(h, "yyyyyyyyyyyy=yyyyyyyyyyya");
        due("144 and 133", h.fits(), 2);
        load(h, "ab=a");
        due("longer", h.fits(), 2);
        load(h, "a=ab");
        due("shorter", h.fits(), 2);
    }

    private static void lengthsOfWords() {
        about("promise 19");
        HeadSplits h = of("xab=yb");
        // y has one more: 9 for x and y, 10 for z
        due("lengths 0 -1", h.lengths(0, -1), 90);
        due("lengths 0 0", h.lengths(0, 0), 10);
        due("lengths 0 9", h.lengths(0, 9), 19);
        due("lengths 0 10", h.lengths(0, 10), 120);
        due("lengths 0 89", h.lengths(0, 89), 899);
        due("lengths 0 90", h.lengths(0, 90), NONE);
        due("if y has a: as many", h.lengths(1, -1), 90);
        due("lengths 1 0", h.lengths(1, 0), 10);
        due("if y has b: one a on the left alone", h.lengths(2, -1), 0);
        due("lengths 2 0", h.lengths(2, 0), NONE);
        load(h, "xa=b");
        due("lengths 0: x is empty", h.lengths(0, -1), 100);
        due("lengths 0 99", h.lengths(0, 99), 99);
        due("lengths 1: b on the right alone", h.lengths(1, -1), 0);
        due("lengths 2: a on the left alone", h.lengths(2, -1), 0);
        load(h, "xxxbyyb=zbb");
        // 3 x and 2 y are z: 00, 01, 02, 03, 04, 10, 11, 12, 13, 20, 21, 30
        int[] all = {0, 12, 24, 36, 48, 103, 115, 127, 139, 206, 218, 309};
        for (int what = 0; what < 3; what++) {
            due("lengths " + what + " -1", h.lengths(what, -1), 12);
            for (int i = 0; i < 12; i++) {
                due("lengths " + what + " " + i, h.lengths(what, i), all[i]);
            }
            due("lengths " + what + " 12", h.lengths(what, 12), NONE);
            for (int n : FAR) {
                due("lengths " + what + " " + n, h.lengths(what, n), n == -1 ? 12 : NONE);
            }
        }
        for (int n : FAR) {
            due("lengths " + n + " -2", h.lengths(n, -2), OUTSIDE);
        }
        due("lengths 3 -1", h.lengths(3, -1), OUTSIDE);
    }

    private static void shortestWords() {
        about("promise 20");
        HeadSplits h = of("x=ab");
        due("shortest -1", h.shortest(-1), 2);
        due("ab: the first one lowest", h.shortest(0), 202);
        due("shortest 1", h.shortest(1), 0);
        load(h, "x=abb");
        due("abb", h.shortest(0), 306);
        load(h, "bba=z");
        due("bba", h.shortest(2), 303);
        load(h, "x=abba");
        due("4 letters are too many", h.shortest(-1), NONE);
        due("of none then", h.shortest(1), NONE);
        due("there is no such variable", h.shortest(3), UNKNOWN);
        for (int n : FAR) {
            due("shortest " + n, h.shortest(n), n == -1 ? NONE : UNKNOWN);
        }
        // the first by x: empty, then y: empty
        load(h, "xyz=ab");
        due("shortest -1", h.shortest(-1), 2);
        due("x is empty", h.shortest(0), 0);
        due("y is empty", h.shortest(1), 0);
        due("z is ab", h.shortest(2), 202);
        round(h);
        h.need(0, 0, 2);
        due("x is a", h.shortest(0), 100);
        due("y is empty", h.shortest(1), 0);
        due("z is b", h.shortest(2), 101);
        h.need(1, 0, 4);
        due("y is two a", h.shortest(-1), NONE);
        load(h, "=");
        due("x a, y aa", h.shortest(-1), 3);
        due("y is aa", h.shortest(1), 200);
        h.need(2, 0, 0);
        due("z is hopeless, though in no row", h.shortest(-1), NONE);
        h.need(2, 0, 7);
        load(h, "xyz=zyxb");
        due("as many letters on both sides never", h.shortest(-1), NONE);
        // fewer together, ahead of x first: x empty would want 3 letters of y and z
        h = of("xxxyz=bbb");
        due("x b", h.shortest(-1), 1);
        due("x", h.shortest(0), 101);
        due("y", h.shortest(1), 0);
        due("z", h.shortest(2), 0);
        load(h, "xyx=zbz");
        due("y b", h.shortest(-1), 1);
        due("x", h.shortest(0), 0);
        due("y", h.shortest(1), 101);
        load(h, "xyz=aaabbbaab");
        due("3 each", h.shortest(-1), 9);
        due("aaa", h.shortest(0), 300);
        due("bbb", h.shortest(1), 307);
        due("aab", h.shortest(2), 304);
        // the lengths of an equation that was there before say nothing
        load(h, "x=a");
        h.lengths(0, -1);
        load(h, "x=ab");
        due("ab", h.shortest(-1), 2);
        h = of("xxx=zza");
        due("x a, z a", h.shortest(-1), 2);
        due("x", h.shortest(0), 100);
        due("z", h.shortest(2), 100);
        h = of("xb=by");
        h.need(0, 1, 4);
        h.leads(1, 1, 2);
        // x must lead from 1 to 2: it has a b; xb=by: b and b
        due("x b, y b", h.shortest(-1), 2);
        due("x", h.shortest(0), 101);
        due("y", h.shortest(1), 101);
    }

    private static void images() {
        about("promise 21");
        HeadSplits h = round(of("x=a"));
        h.need(0, 0, 2);
        h.spell(1, 1);
        due("image 0", h.image(0), 1);
        due("image 1", h.image(1), 1);
        due("nothing changes", h.told(1), 1);
        due("nothing changes", h.told(31), 1);
        due("image 2", h.image(2), OUTSIDE);
        for (int n : FAR) {
            due("image " + n, h.image(n), OUTSIDE);
        }
        h.need(0, 0, 4);
        due("kept anew", h.image(0), 1);
        h.need(0, 0, 1);
        h.restore(0);
        due("told 20", h.told(20), 4);
        h.restore(1);
        due("told 20", h.told(20), 2);
    }

    private static void restoring() {
        about("promise 22");
        HeadSplits h = new HeadSplits();
        due("restore 0", h.restore(0), STATE);
        due("restore 1", h.restore(1), STATE);
        due("restore 2", h.restore(2), OUTSIDE);
        for (int n : FAR) {
            due("restore " + n, h.restore(n), OUTSIDE);
        }
        round(load(h, "xa=ayb"));
        h.need(1, 2, 3);
        h.spell(0, 1);
        h.spell(2, 0);
        int nodes = h.net(0);
        int shortest = h.shortest(-1);
        h.image(1);
        due("restore 0", h.restore(0), STATE);
        load(h, "=b");
        h.leads(0, 0, 0);
        h.need(1, 2, 0);
        h.clear(0);
        h.spell(2, 1);
        due("net of =b", h.net(0), 1);
        due("hopeless", h.brief(1, -1), NONE);
        say(h, "zz");
        for (int times = 0; times < 2; times++) {
            due("restore 1", h.restore(1), 1);
            due("signs stay", h.told(0), 2);
            due("left", h.told(1), 2);
            due("right", h.told(2), 3);
            due("leads", h.told(10), 1);
            due("need", h.told(25), 3);
            due("x", h.told(30), 1);
            due("x", h.told(100), 1);
            due("z", h.told(32), 1);
            due("net", h.net(0), nodes);
            due("shortest", h.shortest(-1), shortest);
            due("brief", h.brief(1, -1) == NONE ? 1 : 0, 0);
            h.leads(0, 0, 2);
            h.spell(0, 0);
            h.need(1, 2, 0);
        }
    }

    private static void telling() {
        about("promise 23");
        HeadSplits h = of("xya=b");
        say(h, "abx");
        due("told 0", h.told(0), 3);
        due("told 1", h.told(1), 3);
        due("told 2", h.told(2), 1);
        h.leads(2, 0, 1);
        h.leads(0, 1, 2);
        int[] goes = {0, 1, 1, 2, 1, 2};
        for (int k = 0; k < 6; k++) {
            due("told " + (10 + k), h.told(10 + k), goes[k]);
        }
        for (int k = 0; k < 9; k++) {
            h.need(k / 3, k % 3, k % 8);
        }
        for (int k = 0; k < 9; k++) {
            due("told " + (20 + k), h.told(20 + k), k % 8);
        }
        h.spell(0, 1);
        h.spell(1, 0);
        h.spell(1, 1);
        h.spell(2, 1);
        h.spell(2, 0);
        h.spell(2, 1);
        int[] letters = {100, 1, 200, 0, 201, 1, 300, 1, 301, 0, 302, 1};
        for (int k = 0; k < letters.length; k += 2) {
            due("told " + letters[k], h.told(letters[k]), letters[k + 1]);
        }
        for (int v = 0; v < 3; v++) {
            due("told " + (30 + v), h.told(30 + v), v + 1);
        }
        int[] outside = {3, 9, 16, 19, 29, 33, 99, 101, 112, 199, 202, 299, 303, 312, 399, 400, 500};
        for (int what : outside) {
            due("told " + what, h.told(what), OUTSIDE);
        }
        for (int n : FAR) {
            due("told " + n, h.told(n), OUTSIDE);
        }
    }

    public static void main(String[] args) {
        newObject();
        saying();
        wiping();
        faults();
        loading();
        leading();
        needing();
        briefs();
        nets();
        nodesOfNet();
        symbols();
        needsOfNodes();
        moves();
        answers();
        spelling();
        clearing();
        taking();
        fitting();
        lengthsOfWords();
        shortestWords();
        images();
        restoring();
        telling();
        endWith("all promises hold");
    }
}
