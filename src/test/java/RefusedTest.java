import java.util.function.Consumer;

/** What refused calls answer, in which order, and that they change nothing: the first lines of 'Terms'. */
public final class RefusedTest extends Checks {
    private interface Call {
        int on(HeadSplits h);
    }

    /** What is told when the refused call comes; each time it is made anew. */
    private enum When { NEW, FILLED, REFUTED, NOT_KNOWN, OPEN, UNFINISHED }

    private static HeadSplits make(When when) {
        HeadSplits h = new HeadSplits();
        switch (when) {
            case FILLED:
                longShort(load(h, "x=zz"));
                spell(h, 0, "ab");
                h.image(0);
                h.need(1, 0, 3);
                spell(h, 1, "abbaabbaabba");
                say(h, "yx?".repeat(14));
                break;
            case REFUTED:
                load(h, "ax=bx");
                spell(h, 2, "b");
                say(h, "a=b=");
                break;
            case NOT_KNOWN:
                longShort(load(h, "x=zzzzzzzaaaaa"));
                spell(h, 1, "ba");
                break;
            case OPEN:
                load(h, "xxxxxxxxxxxx=ab");
                spell(h, 0, "a");
                break;
            case UNFINISHED:
                load(h, "xa=by");
                say(h, "zz");
                break;
            default:
                break;
        }
        return h;
    }

    /** All that can be told of an object, by fewer calls than it may be used for. */
    private static String all(HeadSplits h) {
        StringBuilder text = new StringBuilder();
        tell(h, text);
        text.append(" fault ").append(h.fault()).append(" fits ").append(h.fits()).append(" net");
        for (int what = 0; what < 6; what++) {
            text.append(' ').append(h.net(what));
        }
        text.append(" rows ").append(row(h, 0, 0)).append('=').append(row(h, 0, 1)).append(" words");
        for (int v = 0; v < 3; v++) {
            text.append(' ').append(h.brief(v, -1)).append(' ').append(h.answer(v, -1)).append(' ').append(h.shortest(v));
        }
        for (int k = 0; k < 2; k++) {
            text.append(" image ").append(k).append(' ').append(h.restore(k));
            tell(h, text);
        }
        return text.append(" load ").append(h.load()).append(" take ").append(h.take()).toString();
    }

    private static void tell(HeadSplits h, StringBuilder text) {
        for (int what = 0; what < 33; what++) {
            text.append(' ').append(h.told(what));
        }
        for (int v = 0; v < 3; v++) {
            text.append(" word ");
            for (int i = 0; i < h.told(30 + v); i++) {
                text.append(h.told(100 * v + 100 + i));
            }
        }
    }

    private static void refused(When when, String call, Call refused, int want) {
        HeadSplits h = make(when);
        due(when + ": " + call, refused.on(h), want);
        due(when + ": " + call + " again", refused.on(h), want);
        due(when + ": all, behind " + call, all(h), all(make(when)));
    }

    /** Just outside of 0 up to a bound, and as far outside as can be. */
    private static int[] outOf(int bound) {
        return new int[] {-1, bound, Integer.MIN_VALUE, Integer.MAX_VALUE};
    }

    private static void noSuchVariable(When when) {
        for (int n : outOf(3)) {
            refused(when, "need " + n + " 0 0", h -> h.need(n, 0, 0), UNKNOWN);
            refused(when, "brief " + n + " -1", h -> h.brief(n, -1), UNKNOWN);
            refused(when, "needs 0 " + n + " 0", h -> h.needs(0, n, 0), UNKNOWN);
            refused(when, "answer " + n + " -1", h -> h.answer(n, -1), UNKNOWN);
            refused(when, "spell " + n + " 0", h -> h.spell(n, 0), UNKNOWN);
            refused(when, "clear " + n, h -> h.clear(n), UNKNOWN);
        }
        for (int n : new int[] {-2, 3, Integer.MIN_VALUE, Integer.MAX_VALUE}) {
            refused(when, "shortest " + n, h -> h.shortest(n), UNKNOWN);
        }
    }

    private static void noSuchState(When when) {
        for (int n : outOf(3)) {
            refused(when, "leads " + n + " 0 0", h -> h.leads(n, 0, 0), UNKNOWN);
            refused(when, "leads 0 0 " + n, h -> h.leads(0, 0, n), UNKNOWN);
            refused(when, "need 0 " + n + " 0", h -> h.need(0, n, 0), UNKNOWN);
            refused(when, "needs 0 0 " + n, h -> h.needs(0, 0, n), UNKNOWN);
        }
    }

    private static void noSuchLetter(When when) {
        for (int n : outOf(2)) {
            refused(when, "leads 0 " + n + " 1", h -> h.leads(0, n, 1), UNKNOWN);
            refused(when, "spell 0 " + n, h -> h.spell(0, n), UNKNOWN);
        }
    }

    private static void noSuchNode(When when) {
        for (int n : outOf(make(when).net(0))) {
            refused(when, "node " + n + " 0", h -> h.node(n, 0), UNKNOWN);
            refused(when, "symbol " + n + " 0 0", h -> h.symbol(n, 0, 0), UNKNOWN);
            refused(when, "needs " + n + " 0 0", h -> h.needs(n, 0, 0), UNKNOWN);
            refused(when, "move " + n + " 0 0", h -> h.move(n, 0, 0), UNKNOWN);
        }
    }

    private static void notAsTold(When when) {
        for (int n : outOf(2)) {
            refused(when, "symbol 0 " + n + " 0", h -> h.symbol(0, n, 0), OUTSIDE);
            refused(when, "move 0 0 " + n, h -> h.move(0, 0, n), OUTSIDE);
            refused(when, "image " + n, h -> h.image(n), OUTSIDE);
            refused(when, "restore " + n, h -> h.restore(n), OUTSIDE);
        }
        for (int n : new int[] {0, 32, 127, -1, Integer.MIN_VALUE, Integer.MAX_VALUE}) {
            refused(when, "say " + n, h -> h.say(n), OUTSIDE);
        }
        for (int n : outOf(3)) {
            refused(when, "lengths " + n + " 0", h -> h.lengths(n, 0), OUTSIDE);
        }
        for (int n : outOf(6)) {
            refused(when, "net " + n, h -> h.net(n), OUTSIDE);
        }
        for (int n : outOf(7)) {
            refused(when, "node 0 " + n, h -> h.node(0, n), OUTSIDE);
        }
        for (int n : outOf(8)) {
            refused(when, "need 0 0 " + n, h -> h.need(0, 0, n), OUTSIDE);
        }
        for (int n : outOf(400)) {
            refused(when, "told " + n, h -> h.told(n), OUTSIDE);
        }
    }

    private static void always(String words, Consumer<When> test) {
        for (When when : When.values()) {
            sentence(words, () -> test.accept(when));
        }
    }

    private static void noAsTold() {
        refused(When.NEW, "load of an empty pad", HeadSplits::load, NO);
        refused(When.FILLED, "load of a full pad", HeadSplits::load, NO);
        refused(When.REFUTED, "load of a second =", HeadSplits::load, NO);
        refused(When.UNFINISHED, "load of what must have more", HeadSplits::load, NO);
    }

    private static void stateAsTold() {
        for (When when : new When[] {When.REFUTED, When.NOT_KNOWN, When.OPEN}) {
            refused(when, "take", HeadSplits::take, STATE);
            for (int v = 0; v < 3; v++) {
                int variable = v;
                refused(when, "answer " + v + " -1", h -> h.answer(variable, -1), STATE);
                refused(when, "answer " + v + " 0", h -> h.answer(variable, 0), STATE);
            }
        }
        for (When when : When.values()) {
            refused(when, "restore 1", h -> h.restore(1), STATE);
        }
    }

    private static void full() {
        refused(When.FILLED, "say a 41st", h -> h.say('a'), FULL);
        refused(When.FILLED, "spell a 13th", h -> h.spell(1, 1), FULL);
        refused(When.FILLED, "take of 16 letters", HeadSplits::take, FULL);
    }

    private static void unknownAheadOfOutside() {
        refused(When.FILLED, "need 3 0 8", h -> h.need(3, 0, 8), UNKNOWN);
        refused(When.FILLED, "need 0 3 8", h -> h.need(0, 3, 8), UNKNOWN);
        refused(When.FILLED, "need -1 -1 -1", h -> h.need(-1, -1, -1), UNKNOWN);
        refused(When.FILLED, "node 150 7", h -> h.node(150, 7), UNKNOWN);
        refused(When.FILLED, "node -1 -1", h -> h.node(-1, -1), UNKNOWN);
        refused(When.FILLED, "symbol 150 2 0", h -> h.symbol(150, 2, 0), UNKNOWN);
        refused(When.FILLED, "symbol -1 -1 -1", h -> h.symbol(-1, -1, -1), UNKNOWN);
        refused(When.FILLED, "move 150 0 2", h -> h.move(150, 0, 2), UNKNOWN);
        refused(When.FILLED, "move -1 -1 -1", h -> h.move(-1, -1, -1), UNKNOWN);
    }

    private static void unknownAheadOfState() {
        refused(When.REFUTED, "answer 3 -1", h -> h.answer(3, -1), UNKNOWN);
        refused(When.NOT_KNOWN, "answer -1 0", h -> h.answer(-1, 0), UNKNOWN);
    }

    private static void unknownAheadOfFull() {
        refused(When.FILLED, "spell 1 2", h -> h.spell(1, 2), UNKNOWN);
        refused(When.FILLED, "spell 1 -1", h -> h.spell(1, -1), UNKNOWN);
    }

    private static void outsideAheadOfState() {
        refused(When.NEW, "restore 2", h -> h.restore(2), OUTSIDE);
        refused(When.NEW, "restore -1", h -> h.restore(-1), OUTSIDE);
    }

    private static void outsideAheadOfFull() {
        refused(When.FILLED, "say 32", h -> h.say(32), OUTSIDE);
        refused(When.FILLED, "say 127", h -> h.say(127), OUTSIDE);
    }

    /** A word of more than 60 letters has more than 12, too. */
    private static void stateAheadOfFull() {
        refused(When.NOT_KNOWN, "take", HeadSplits::take, STATE);
    }

    /** That there is none is told of calls that are not refused. */
    private static void refusedAheadOfNone() {
        refused(When.FILLED, "symbol 0 2 99", h -> h.symbol(0, 2, 99), OUTSIDE);
        refused(When.FILLED, "move 0 99 2", h -> h.move(0, 99, 2), OUTSIDE);
        refused(When.FILLED, "lengths 3 9999", h -> h.lengths(3, 9999), OUTSIDE);
        refused(When.FILLED, "lengths -1 -2", h -> h.lengths(-1, -2), OUTSIDE);
        refused(When.FILLED, "brief 3 99", h -> h.brief(3, 99), UNKNOWN);
        refused(When.FILLED, "answer 3 99", h -> h.answer(3, 99), UNKNOWN);
        refused(When.REFUTED, "answer 0 99", h -> h.answer(0, 99), STATE);
        refused(When.REFUTED, "shortest 3", h -> h.shortest(3), UNKNOWN);
    }

    private static void signsChangeTheFault() {
        HeadSplits h = new HeadSplits();
        say(h, "x");
        due("fault of x", h.fault(), 1);
        h.say(' ');
        due("fault, behind a refused sign", h.fault(), 1);
        h.say('=');
        due("fault of x=", h.fault(), NONE);
        h.say('?');
        due("fault of x=?", h.fault(), 2);
        h.say('a');
        due("fault of x=?a", h.fault(), 2);
    }

    public static void main(String[] args) {
        always("UNKNOWN, there is no such VARIABLE; they change nothing", RefusedTest::noSuchVariable);
        always("UNKNOWN, there is no such STATE; they change nothing", RefusedTest::noSuchState);
        always("UNKNOWN, there is no such LETTER; they change nothing", RefusedTest::noSuchLetter);
        always("UNKNOWN, there is no such NODE; they change nothing", RefusedTest::noSuchNode);
        always("OUTSIDE, another number is not as told; they change nothing", RefusedTest::notAsTold);
        sentence("NO, as told; they change nothing", RefusedTest::noAsTold);
        sentence("STATE, as told; they change nothing", RefusedTest::stateAsTold);
        sentence("FULL; they change nothing", RefusedTest::full);
        sentence("the first that fits: UNKNOWN ahead of OUTSIDE", RefusedTest::unknownAheadOfOutside);
        sentence("the first that fits: UNKNOWN ahead of STATE", RefusedTest::unknownAheadOfState);
        sentence("the first that fits: UNKNOWN ahead of FULL", RefusedTest::unknownAheadOfFull);
        sentence("the first that fits: OUTSIDE ahead of STATE", RefusedTest::outsideAheadOfState);
        sentence("the first that fits: OUTSIDE ahead of FULL", RefusedTest::outsideAheadOfFull);
        sentence("the first that fits: STATE ahead of FULL", RefusedTest::stateAheadOfFull);
        sentence("refused, ahead of NONE", RefusedTest::refusedAheadOfNone);
        sentence("a sign that is said changes what fault() tells", RefusedTest::signsChangeTheFault);
        endWith("refused calls are as due");
    }
}
