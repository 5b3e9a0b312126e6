/** The boundary cases of 'Terms', the part marked 2, and of promises 9 to 13, a sentence each. */
public final class NetEdgesTest extends Checks {
    // ---- lean

    private static void leanToNothing() {
        dueNode(of("abxyz=abxyz"), 0, "=");
        dueNode(of("abx=ab"), 0, "x=");
        dueNode(of("ab=abyx"), 0, "=yx");
        dueNode(of("xyzabxyzabxy=xyzabxyzabxy"), 0, "=");
        dueNode(of("xyzabxyzabxy=xyzabxyzabxz"), 0, "y=z");
    }

    /** Alike symbols behind heads that are not alike stay, and alike ends. */
    private static void leanAtTheHeadsAlone() {
        dueNode(of("aab=bab"), 0, "aab=bab");
        dueNode(of("xa=ya"), 0, "xa=ya");
    }

    private static void leanBehindAMove() {
        // x begins with a: axb=aab
        dueNode(of("xb=ab"), 2, "xb=b");
        // x nothing: ab=ab
        dueNode(of("xab=ab"), 1, "=");
    }

    private static void needsOfTheLostStay() {
        HeadSplits h = round(of("xy=xy"));
        h.need(0, 0, 2);
        h.need(1, 1, 1);
        dueNode(h, 0, "=");
        dueNeeds(h, 0, 0, 2, 7, 7);
        dueNeeds(h, 0, 1, 7, 1, 7);
        dueNeeds(h, 0, 2, 7, 7, 7);
    }

    // ---- ends

    private static void anEndAtOnce() {
        dueNet(of("="), 1, 1, 0, 0, 0, 0);
        dueNet(of("xa=xa"), 1, 1, 0, 0, 0, 2);
    }

    /** Any variable: lost, or in no row at all. */
    private static void noEndIfHopeless() {
        for (int v = 0; v < 3; v++) {
            HeadSplits h = of("x=x");
            h.need(v, 0, 2);
            dueNet(h, 1, 0, NONE, 0, 0, 2);
            dueMoves(h, 0);
            h.need(v, 0, 7);
            dueNet(h, 1, 1, 0, 0, 0, 2);
        }
    }

    private static void noEndIfARowIsLeft() {
        dueNet(of("=a"), 1, 0, NONE, 0, 0, 0);
        dueNet(of("a="), 1, 0, NONE, 0, 0, 0);
    }

    private static void noMoveFromAnEnd() {
        HeadSplits h = of("x=");
        dueNode(h, 1, "=");
        due("the first end", h.net(2), 1);
        dueMoves(h, 1);
    }

    // ---- moves

    private static void anEmptyRow() {
        dueMoves(of("x="), 0, 0);
        dueMoves(of("=x"), 0, 0);
        dueMoves(of("zy="), 0, 200);
        dueMoves(of("=yzx"), 0, 100);
        dueMoves(of("ax="), 0);
        dueMoves(of("=bx"), 0);
    }

    private static void nothingGoesOutOfBothRows() {
        HeadSplits h = of("xaxyx=ybxx");
        dueNode(h, 1, "ay=yb");
        dueNode(h, 2, "xaxx=bxx");
    }

    /** One state is enough that it can not stay in. */
    private static void nothingIfEachStateMayStay() {
        for (int s = 0; s < 3; s++) {
            HeadSplits h = round(of("x=a"));
            h.need(0, s, 1 << s);
            due("by itself alone: move 0 0 1", h.move(0, 0, 1), 0);
            h.need(0, s, 7 - (1 << s));
            dueMoves(h, 0, 1000);
            h.need(0, s, 7);
            dueMoves(h, 0, 0, 1000);
        }
    }

    private static void needOfNothing() {
        HeadSplits h = of("xa=yb");
        needAll(h, 0, 1, 3, 5);
        needAll(h, 1, 1, 2, 6);
        dueNode(h, 1, "a=yb");
        dueNeeds(h, 1, 0, 7, 7, 7);
        dueNeeds(h, 1, 1, 1, 2, 6);
        dueNode(h, 2, "xa=b");
        dueNeeds(h, 2, 0, 1, 3, 5);
        dueNeeds(h, 2, 1, 7, 7, 7);
    }

    private static void movesInOrder() {
        dueMoves(of("xa=yb"), 0, 0, 100, 1000, 1100);
        dueMoves(of("za=xb"), 0, 200, 0, 1200, 1000);
        dueMoves(of("xa=b"), 0, 0, 1000);
        dueMoves(of("b=za"), 0, 200, 1200);
        dueMoves(of("a=bx"), 0);
    }

    private static void beginsInBothRows() {
        HeadSplits h = of("xbx=axx");
        dueNode(h, 2, "xbax=axax");
        h = of("axx=xbx");
        dueNode(h, 2, "axax=xbax");
        h = of("xx=yxa");
        // x nothing; y nothing: x=a; x begins with y: yxyx=yyxa
        dueNode(h, 3, "xyx=yxa");
    }

    /** By a all go to 1: of 0 and 2 there is no s. */
    private static void needBehindALetter() {
        HeadSplits h = machine(of("x=ab"), 1, 1, 1, 0, 1, 2);
        needAll(h, 0, 3, 6, 7);
        dueMoves(h, 0, 0, 1000);
        dueNode(h, 2, "x=b");
        dueNeeds(h, 2, 0, 7, 2, 7);
        needAll(h, 0, 3, 7, 7);
        dueNeeds(h, 2, 0, 7, 3, 7);
    }

    /** What one need has, the other has not: none is left, and what is hopeless is no cut. */
    private static void needBehindALetterOfNone() {
        HeadSplits h = machine(of("x=ab"), 1, 1, 1, 0, 1, 2);
        needAll(h, 0, 1, 6, 7);
        dueMoves(h, 0, 0);
        due("node 0 6", h.node(0, 6), 0);
        due("refuted", h.net(1), 0);
    }

    private static void turnOfAFreeOneIsNought() {
        dueMoves(of("xa=yb"), 0, 0, 100, 1000, 1100);
        // the need is that of the one that begins, not that of the other one
        HeadSplits h = round(of("xa=yb"));
        h.need(1, 2, 3);
        dueMoves(h, 0, 0, 1000, 1100, 1109, 1118);
    }

    /** Words lead all to 0, all to 2, or each to itself: the least turn, the greatest, and 0 + 3 + 18. */
    private static void turnsFrom0To26() {
        HeadSplits h = machine(of("xb=ya"), 0, 0, 0, 2, 2, 2);
        needAll(h, 0, 5, 5, 5);
        dueMoves(h, 0, 100, 1000, 1021, 1026, 1100);
        dueNeeds(h, 2, 0, 5, 7, 7);
        dueNeeds(h, 2, 1, 1, 1, 1);
        dueNeeds(h, 3, 0, 5, 5, 5);
        dueNeeds(h, 3, 1, 1, 2, 4);
        dueNeeds(h, 4, 0, 7, 7, 5);
        dueNeeds(h, 4, 1, 4, 4, 4);
    }

    /** One state of which there is a need: 3 to the power of it. */
    private static void turnsOfEachState() {
        for (int s = 0; s < 3; s++) {
            int power = s == 0 ? 1 : s == 1 ? 3 : 9;
            HeadSplits h = round(of("xb=ya"));
            h.need(0, s, 7 - (1 << s));
            dueMoves(h, 0, 100, 1000, 1000 + power, 1000 + 2 * power, 1100);
            for (int q = 0; q < 3; q++) {
                for (int t = 0; t < 3; t++) {
                    due("need of x of " + t, h.needs(2 + q, 0, t), t == q ? 7 - (1 << s) : 7);
                    due("need of y of " + t, h.needs(2 + q, 1, t), t == s ? 1 << q : 7);
                }
            }
        }
    }

    /** Two states are led to one: what both needs have. If that is none, the move is none. */
    private static void turnsToOneState() {
        HeadSplits h = machine(of("xb=ya"), 0, 0, 0, 2, 2, 2);
        needAll(h, 0, 3, 7, 5);
        // y nothing; all to 0; 0 to 0 and 2 to 2; all to 2
        dueMoves(h, 0, 0, 100, 1000, 1018, 1020, 1100);
        dueNeeds(h, 3, 0, 1, 7, 7);
        dueNeeds(h, 3, 1, 1, 7, 1);
        needAll(h, 0, 1, 7, 4);
        dueMoves(h, 0, 0, 100, 1018, 1100);
    }

    /** A turn that the need of the other one has not is none; nor is its node cut. */
    private static void theOtherLosesAllButQ() {
        HeadSplits h = round(of("xb=ya"));
        h.need(0, 0, 6);
        h.need(1, 0, 5);
        dueMoves(h, 0, 100, 1000, 1002, 1101, 1102);
        due("node 0 6", h.node(0, 6), 0);
    }

    // ---- cuts

    private static void hopelessIsNoCut() {
        HeadSplits h = of("x=a");
        h.need(0, 0, 0);
        dueNet(h, 1, 0, NONE, 0, 0, 1);
        dueMoves(h, 0);
        due("node 0 6", h.node(0, 6), 0);
    }

    /** 7 more by each move: 10, 17, 24 symbols, and 11, 18, 25; on the left, on the right. */
    private static void rowsOf24And25() {
        HeadSplits h = of("xxxxxxxxbb=aab");
        dueNet(h, 6, 2, NONE, 3, 1, 8);
        due("node 4 0", h.node(4, 0), 24);
        due("node 2 6", h.node(2, 6), 0);
        due("node 4 6", h.node(4, 6), 1);
        h = of("xxxxxxxxbbb=aab");
        dueNet(h, 4, 2, NONE, 2, 1, 8);
        due("node 2 0", h.node(2, 0), 18);
        due("node 2 6", h.node(2, 6), 1);
        h = of("aab=xxxxxxxxbb");
        dueNet(h, 6, 2, NONE, 3, 1, 8);
        due("node 4 1", h.node(4, 1), 24);
        h = of("aab=xxxxxxxxbbb");
        dueNet(h, 4, 2, NONE, 2, 1, 8);
        due("node 2 6", h.node(2, 6), 1);
    }

    /** 17 symbols and 8 more are 25, of which the head goes. */
    private static void leanAheadOfLong() {
        HeadSplits h = of("xxxxxxxxbb=aab");
        due("node 2 0", h.node(2, 0), 17);
        dueMoves(h, 2, 0, 1000);
        due("node 4 0", h.node(h.move(2, 1, 0), 0), 24);
    }

    private static void hopelessAndLongIsNoCut() {
        HeadSplits h = machine(of("xxxxxxxxxxxx=ab"), 1, 1, 2, 0, 2, 2);
        due("node 2 6, not hopeless", h.node(2, 6), 1);
        due("open", h.net(1), 2);
        h.need(0, 0, 2);
        dueNet(h, 3, 0, NONE, 2, 0, 12);
        dueNode(h, 1, "xaxaxaxaxaxaxaxaxaxaxax=b");
        due("node 1 6", h.node(1, 6), 0);
    }

    private static void upTo150() {
        dueNet(of("abyaxb=xzayz"), 149, 0, NONE, 10, 0, 2);
        dueNet(of("aazza=xyxb"), 150, 0, NONE, 9, 0, 2);
        dueNet(of("yz=xxxxbz"), 150, 1, 22, 9, 0, 4);
    }

    private static void anotherThan150() {
        HeadSplits h = of("axxy=zzaya");
        dueNet(h, 150, 2, NONE, 13, 1, 2);
        due("node 149 0", h.node(149, 0) >= 0 ? 1 : 0, 1);
        for (int n : new int[] {150, 151, -1}) {
            due("node " + n + " 0", h.node(n, 0), UNKNOWN);
            due("symbol " + n + " 0 0", h.symbol(n, 0, 0), UNKNOWN);
            due("needs " + n + " 0 0", h.needs(n, 0, 0), UNKNOWN);
            due("move " + n + " 0 0", h.move(n, 0, 0), UNKNOWN);
        }
        int cut = 0;
        for (int i = 0; i < 150; i++) {
            cut += h.node(i, 6);
        }
        due("one node is cut", cut, 1);
    }

    /** When there are 150, a move to one of them is still one. */
    private static void metBeforeAmong150() {
        HeadSplits h = of("xyzxy=yxazyx");
        int late = 0;
        for (int i = 0; i < 150; i++) {
            late += h.node(i, 6) == 1 && h.node(i, 5) > 0 ? 1 : 0;
        }
        due("some are cut, and have moves", late > 0 ? 1 : 0, 1);
    }

    private static void theLastNodeIsAnEnd() {
        HeadSplits h = of("yayaa=azbxx");
        dueNet(h, 150, 1, 149, 9, 14, 2);
        dueNode(h, 149, "=");
        due("an answer", h.answer(0, -1) >= 0 ? 1 : 0, 1);
    }

    // ---- numbers, depth, parent

    private static void twoAreOne() {
        HeadSplits h = of("x=y");
        dueNet(h, 4, 1, 3, 2, 0, 1);
        int[] to = {1, 2, 2, 1};
        for (int k = 0; k < 4; k++) {
            due("move 0 " + k + " 0", h.move(0, k, 0), to[k]);
        }
        due("by the first move", h.node(2, 4), 100);
        due("both lead to the end", h.move(1, 0, 0) + h.move(2, 0, 0), 6);
        due("its parent met it", h.node(3, 3), 1);
    }

    private static void twoByTheirNeeds() {
        HeadSplits h = of("x=y");
        h.need(1, 0, 1);
        // y nothing: x=, its need is 7; x begins with y: x=, its need stays
        dueNode(h, 2, "x=");
        dueNode(h, 3, "x=");
        due("needs 2 1 0", h.needs(2, 1, 0), 7);
        due("needs 3 1 0", h.needs(3, 1, 0), 1);
    }

    private static void twoByTheirRows() {
        HeadSplits h = of("x=y");
        dueNode(h, 1, "=y");
        dueNode(h, 2, "x=");
        h = of("ax=ya");
        int same = 0;
        for (int i = 0; i < h.net(0); i++) {
            for (int k = 0; k < i; k++) {
                same += row(h, i, 0).equals(row(h, k, 0)) && row(h, i, 1).equals(row(h, k, 1)) ? 1 : 0;
            }
        }
        due("none is there twice", same, 0);
    }

    /** A move to the node itself: it has no parent by that. */
    private static void backToNode0() {
        HeadSplits h = of("xa=ax");
        dueMoves(h, 0, 0, 1000);
        due("move 0 1 0", h.move(0, 1, 0), 0);
        due("node 0 2", h.node(0, 2), 0);
        due("node 0 3", h.node(0, 3), NONE);
        due("node 0 4", h.node(0, 4), NONE);
        dueNet(h, 2, 1, 1, 1, 0, 2);
    }

    /** By a longer way, or a later move, it stays as it was met. */
    private static void depthAtTheLeast() {
        HeadSplits h = of("xab=bax");
        due("node 2 leads back", h.move(2, 1, 0), 0);
        due("node 0 2", h.node(0, 2), 0);
        due("node 2 2", h.node(2, 2), 1);
        due("node 3 2", h.node(3, 2), 2);
        h = of("x=a");
        due("node 2 2", h.node(2, 2), 1);
        due("node 3 2", h.node(3, 2), 2);
        due("the greatest", h.net(3), 2);
    }

    private static void theGreatestMove() {
        HeadSplits h = machine(of("zb=ya"), 0, 0, 0, 2, 2, 2);
        needAll(h, 2, 5, 5, 5);
        dueMoves(h, 0, 100, 1200, 1221, 1226, 1100);
        due("node 4 4", h.node(4, 4), 1226);
    }

    // ---- verdicts

    private static void solvedThoughCut() {
        dueNet(of("yyyyx=aay"), 19, 1, 11, 7, 1, 5);
    }

    /** The first by number, though others are met later. */
    private static void theFirstEnd() {
        HeadSplits h = of("xy=yx");
        h.need(0, 0, 1);
        int ends = 0;
        for (int i = h.net(0) - 1; i > h.net(2); i--) {
            ends += h.node(i, 0) + h.node(i, 1) == 0 ? 1 : 0;
        }
        due("more ends behind the first", ends > 0 ? 1 : 0, 1);
        for (int i = 0; i < h.net(2); i++) {
            due("no end ahead of it", h.node(i, 0) + h.node(i, 1) > 0 ? 1 : 0, 1);
        }
    }

    private static void refutedIfNoneIsCut() {
        dueNet(of("ax=xb"), 2, 0, NONE, 1, 0, 2);
        dueNet(of("a=b"), 1, 0, NONE, 0, 0, 0);
    }

    private static void openIfOneIsCut() {
        dueNet(of("xxxxxxxxxxxx=ab"), 4, 2, NONE, 2, 1, 12);
    }

    /** Of the equation as it is told, not as it is lean; of the one that is there most often. */
    private static void howOftenAtTheMost() {
        due("net 5 of nothing", new HeadSplits().net(5), 0);
        due("net 5 of letters", of("abab=ba").net(5), 0);
        due("net 5 of x=x", of("x=x").net(5), 2);
        due("net 5 of 24 y", of("yyyyyyyyyyyy=yyyyyyyyyyyy").net(5), 24);
        due("net 5 of xyyzzz=zyx", of("xyyzzz=zyx").net(5), 4);
        due("net 5 of xxx=yyzz", of("xxx=yyzz").net(5), 3);
    }

    // ---- promises 9 to 13: refused calls, and none

    private static void netOutside() {
        for (int n : new int[] {-1, 6, Integer.MIN_VALUE, Integer.MAX_VALUE}) {
            due("net " + n, of("x=a").net(n), OUTSIDE);
        }
    }

    private static void nodeUnknownOutside() {
        HeadSplits h = of("x=a");
        due("node 3 0", h.node(3, 0), 0);
        for (int n : new int[] {-1, 4, Integer.MIN_VALUE, Integer.MAX_VALUE}) {
            due("node " + n + " 0", h.node(n, 0), UNKNOWN);
        }
        due("node 3 6", h.node(3, 6), 0);
        for (int n : new int[] {-1, 7, Integer.MIN_VALUE, Integer.MAX_VALUE}) {
            due("node 3 " + n, h.node(3, n), OUTSIDE);
        }
    }

    private static void symbolOfNoPlace() {
        HeadSplits h = of("xaz=by");
        int[] left = {2, 0, 4, NONE}, right = {1, 3, NONE};
        for (int k = 0; k < 4; k++) {
            due("symbol 0 0 " + k, h.symbol(0, 0, k), left[k]);
        }
        for (int k = 0; k < 3; k++) {
            due("symbol 0 1 " + k, h.symbol(0, 1, k), right[k]);
        }
        for (int k : FAR) {
            due("symbol 0 0 " + k, h.symbol(0, 0, k), NONE);
            due("symbol 0 1 " + k, h.symbol(0, 1, k), NONE);
        }
    }

    private static void symbolUnknownOutside() {
        HeadSplits h = of("x=a");
        for (int n : new int[] {-1, 4, Integer.MIN_VALUE, Integer.MAX_VALUE}) {
            due("symbol " + n + " 0 0", h.symbol(n, 0, 0), UNKNOWN);
        }
        for (int n : new int[] {-1, 2, Integer.MIN_VALUE, Integer.MAX_VALUE}) {
            due("symbol 0 " + n + " 0", h.symbol(0, n, 0), OUTSIDE);
        }
    }

    private static void needsUnknown() {
        HeadSplits h = of("x=a");
        for (int n : new int[] {-1, 4, Integer.MIN_VALUE, Integer.MAX_VALUE}) {
            due("needs " + n + " 0 0", h.needs(n, 0, 0), UNKNOWN);
        }
        for (int n : new int[] {-1, 3, Integer.MIN_VALUE, Integer.MAX_VALUE}) {
            due("needs 0 " + n + " 0", h.needs(0, n, 0), UNKNOWN);
            due("needs 0 0 " + n, h.needs(0, 0, n), UNKNOWN);
        }
        due("needs 3 2 2", h.needs(3, 2, 2), 7);
    }

    private static void moveOfNoPlace() {
        HeadSplits h = of("x=a");
        for (int k : new int[] {-1, 2, Integer.MIN_VALUE, Integer.MAX_VALUE}) {
            due("move 0 " + k + " 0", h.move(0, k, 0), NONE);
            due("move 0 " + k + " 1", h.move(0, k, 1), NONE);
        }
        due("move 1 0 0, of =a", h.move(1, 0, 0), NONE);
    }

    private static void moveUnknownOutside() {
        HeadSplits h = of("x=a");
        for (int n : new int[] {-1, 4, Integer.MIN_VALUE, Integer.MAX_VALUE}) {
            due("move " + n + " 0 0", h.move(n, 0, 0), UNKNOWN);
        }
        for (int n : new int[] {-1, 2, Integer.MIN_VALUE, Integer.MAX_VALUE}) {
            due("move 0 0 " + n, h.move(0, 0, n), OUTSIDE);
        }
    }

    /** The net is that of what is told now, whatever was asked before. */
    private static void theNetOfNow() {
        HeadSplits h = of("xyzxy=yxazyx");
        due("150", h.net(0), 150);
        load(h, "abyaxb=xzayz");
        dueNet(h, 149, 0, NONE, 10, 0, 2);
        load(h, "x=a");
        dueNet(h, 4, 1, 3, 2, 0, 1);
        due("node 4 0", h.node(4, 0), UNKNOWN);
        h.need(0, 0, 0);
        dueNet(h, 1, 0, NONE, 0, 0, 1);
        h.need(0, 0, 2);
        dueNet(h, 1, 0, NONE, 0, 0, 1);
        h.leads(0, 0, 1);
        dueNet(h, 3, 1, 2, 2, 0, 1);
        h.image(0);
        load(h, "=");
        dueNet(h, 1, 1, 0, 0, 0, 0);
        h.restore(0);
        dueNet(h, 3, 1, 2, 2, 0, 1);
    }

    private static void terms() {
        sentence("as long as both rows begin with the same SYMBOL", NetEdgesTest::leanToNothing);
        sentence("LEAN: at the heads alone", NetEdgesTest::leanAtTheHeadsAlone);
        sentence("what a MOVE leads to is made LEAN", NetEdgesTest::leanBehindAMove);
        sentence("NEEDS of VARIABLES that were lost so, stay", NetEdgesTest::needsOfTheLostStay);
        sentence("END, if both rows are empty", NetEdgesTest::anEndAtOnce);
        sentence("END, if no VARIABLE is HOPELESS", NetEdgesTest::noEndIfHopeless);
        sentence("no END, if a row is left", NetEdgesTest::noEndIfARowIsLeft);
        sentence("MOVES from a NODE that is not an END", NetEdgesTest::noMoveFromAnEnd);
        sentence("if one is empty, only MOVES of the kind 0 of the other one", NetEdgesTest::anEmptyRow);
        sentence("NOTHING: it goes out of both rows", NetEdgesTest::nothingGoesOutOfBothRows);
        sentence("NOTHING, if for each STATE s its NEED of s has s", NetEdgesTest::nothingIfEachStateMayStay);
        sentence("NOTHING: its NEED is 7 for all then", NetEdgesTest::needOfNothing);
        sentence("MOVES, in this order", NetEdgesTest::movesInOrder);
        sentence("BEGINS: that, and itself behind it, in both rows", NetEdgesTest::beginsInBothRows);
        sentence("7, if there is no such s", NetEdgesTest::needBehindALetter);
        sentence("all STATES that are in its NEEDS of all s: none", NetEdgesTest::needBehindALetterOfNone);
        sentence("q is 0 where that NEED is 7", NetEdgesTest::turnOfAFreeOneIsNought);
        sentence("a MOVE for each TURN, rising", NetEdgesTest::turnsFrom0To26);
        sentence("the sum of q times 3 to the power s", NetEdgesTest::turnsOfEachState);
        sentence("all that are in its NEEDS of all such s of which q is t", NetEdgesTest::turnsToOneState);
        sentence("the NEED of s of the other one loses all but q", NetEdgesTest::theOtherLosesAllButQ);
        sentence("none, if any VARIABLE is HOPELESS then", NetEdgesTest::hopelessIsNoCut);
        sentence("none, if a row has more than 24 SYMBOLS", NetEdgesTest::rowsOf24And25);
        sentence("made LEAN, ahead of more than 24", NetEdgesTest::leanAheadOfLong);
        sentence("by that alone the NODE is CUT", NetEdgesTest::hopelessAndLongIsNoCut);
        sentence("up to 150", NetEdgesTest::upTo150);
        sentence("what would be another one is none, that NODE is CUT, too", NetEdgesTest::anotherThan150);
        sentence("150, and a MOVE to one that was met", NetEdgesTest::metBeforeAmong150);
        sentence("the 150th is an END", NetEdgesTest::theLastNodeIsAnEnd);
        sentence("two are one, if rows and NEEDS are alike", NetEdgesTest::twoAreOne);
        sentence("two, if NEEDS are not alike", NetEdgesTest::twoByTheirNeeds);
        sentence("two, if rows are not alike", NetEdgesTest::twoByTheirRows);
        sentence("NODE 0 has no PARENT; 10: NONE", NetEdgesTest::backToNode0);
        sentence("DEPTH: at the least", NetEdgesTest::depthAtTheLeast);
        sentence("1000 times the kind, 100 times the VARIABLE, and the TURN", NetEdgesTest::theGreatestMove);
        sentence("SOLVED, if there is an END", NetEdgesTest::solvedThoughCut);
        sentence("SOLVED: the first one", NetEdgesTest::theFirstEnd);
        sentence("REFUTED, if there is none, and no NODE is CUT", NetEdgesTest::refutedIfNoneIsCut);
        sentence("else OPEN", NetEdgesTest::openIfOneIsCut);
    }

    public static void main(String[] args) {
        terms();
        sentence("9: how often each VARIABLE is there at the most", NetEdgesTest::howOftenAtTheMost);
        sentence("9: OUTSIDE", NetEdgesTest::netOutside);
        sentence("9: of what is told", NetEdgesTest::theNetOfNow);
        sentence("10: UNKNOWN; OUTSIDE", NetEdgesTest::nodeUnknownOutside);
        sentence("11: NONE", NetEdgesTest::symbolOfNoPlace);
        sentence("11: UNKNOWN; OUTSIDE, the row", NetEdgesTest::symbolUnknownOutside);
        sentence("12: UNKNOWN, all three", NetEdgesTest::needsUnknown);
        sentence("13: NONE", NetEdgesTest::moveOfNoPlace);
        sentence("13: UNKNOWN; OUTSIDE", NetEdgesTest::moveUnknownOutside);
        endWith("the edges of promises 9 to 13 are as due");
    }
}
