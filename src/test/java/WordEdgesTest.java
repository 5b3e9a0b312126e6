/** The boundary cases of 'Terms', the parts marked 3 and 4, and of promises 14 to 23, a sentence each. */
public final class WordEdgesTest extends Checks {
    private static final String TWELVE = "abbaababbaab";

    private static void dueTold(HeadSplits h, int variable, String word) {
        due("told " + (30 + variable), h.told(30 + variable), word.length());
        for (int i = 0; i < word.length(); i++) {
            due("told " + (100 * variable + 100 + i), h.told(100 * variable + 100 + i), word.charAt(i) - 'a');
        }
        due("told behind its end", h.told(100 * variable + 100 + word.length()), OUTSIDE);
    }

    // ---- answers

    private static void shortWordsAtTheEnd() {
        HeadSplits h = round(of("="));
        dueAnswer(h, 0, "");
        h.need(1, 0, 4);
        h.need(2, 2, 1);
        dueAnswer(h, 0, "");
        dueAnswer(h, 1, "aa");
        dueAnswer(h, 2, "a");
    }

    private static void nothingHasTheEmptyWord() {
        HeadSplits h = of("xyz=");
        for (int v = 0; v < 3; v++) {
            dueAnswer(h, v, "");
        }
    }

    private static void beginsWithALetterOrAWord() {
        dueAnswer(of("x=abb"), 0, "abb");
        dueAnswer(of("bba=z"), 2, "bba");
        HeadSplits h = round(of("x=yby"));
        h.need(1, 0, 4);
        dueAnswer(h, 0, "aabaa");
        dueAnswer(h, 1, "aa");
        h = round(of("zbz=x"));
        h.need(2, 0, 2);
        dueAnswer(h, 0, "aba");
        dueAnswer(h, 2, "a");
    }

    private static void sixtyLetters() {
        HeadSplits h = longShort(of("x=zzzzzzzaaaa"));
        due("60, a word was put ahead last", h.answer(0, -1), 60);
        due("answer 0 59", h.answer(0, 59), 0);
        due("answer 0 60", h.answer(0, 60), NONE);
        load(h, "x=aaaazzzzzzz");
        due("60, a letter was put ahead last", h.answer(0, -1), 60);
        due("answer 0 59", h.answer(0, 59), h.brief(2, 7));
    }

    private static void sixtyOneLetters() {
        for (String signs : new String[] {"x=zzzzzzzaaaaa", "x=aaaaazzzzzzz", "x=zzzzzzzz", "zzzzzzzzzzzz=y"}) {
            HeadSplits h = longShort(of(signs));
            due("solved", h.net(1), 1);
            for (int v = 0; v < 3; v++) {
                due("answer " + v + " -1", h.answer(v, -1), STATE);
                due("answer " + v + " 0", h.answer(v, 0), STATE);
            }
        }
    }

    private static void notSolved() {
        for (String signs : new String[] {"ax=bx", "xxxxxxxxxxxx=ab", "a=", "xyzxy=yxazyx"}) {
            HeadSplits h = of(signs);
            due("answer 0 -1 of " + signs, h.answer(0, -1), STATE);
            due("answer 2 5 of " + signs, h.answer(2, 5), STATE);
            due("take of " + signs, h.take(), STATE);
        }
    }

    private static void notSolvedAnyMore() {
        HeadSplits h = of("x=a");
        dueAnswer(h, 0, "a");
        load(h, "ax=bx");
        due("answer 0 -1", h.answer(0, -1), STATE);
        due("take", h.take(), STATE);
        load(h, "x=b");
        dueAnswer(h, 0, "b");
        h.need(0, 0, 0);
        due("answer 0 -1, hopeless", h.answer(0, -1), STATE);
        due("take, hopeless", h.take(), STATE);
    }

    private static void answerOfNoSuchLetter() {
        HeadSplits h = of("x=ab");
        dueAnswer(h, 0, "ab");
        for (int i : new int[] {2, 59, 60, -2, Integer.MIN_VALUE, Integer.MAX_VALUE}) {
            due("answer 0 " + i, h.answer(0, i), NONE);
        }
        due("answer 1 0, of an empty word", h.answer(1, 0), NONE);
    }

    private static void answerUnknown() {
        for (int n : new int[] {-1, 3, Integer.MIN_VALUE, Integer.MAX_VALUE}) {
            due("answer " + n + " -1", of("x=ab").answer(n, -1), UNKNOWN);
            due("answer " + n + " -1, not solved", of("a=b").answer(n, -1), UNKNOWN);
        }
    }

    // ---- words told

    private static void wordsOf12Letters() {
        for (int v = 0; v < 3; v++) {
            HeadSplits h = new HeadSplits();
            for (int n = 1; n <= 12; n++) {
                due("spell " + v, h.spell(v, TWELVE.charAt(n - 1) - 'a'), n);
            }
            due("spell a 13th", h.spell(v, 1), FULL);
            dueTold(h, v, TWELVE);
            due("another one is not full", h.spell((v + 1) % 3, 1), 1);
            due("clear", h.clear(v), 12);
            due("spell, of an empty word", h.spell(v, 1), 1);
        }
    }

    private static void spellUnknown() {
        HeadSplits h = new HeadSplits();
        for (int n : new int[] {-1, 3, Integer.MIN_VALUE, Integer.MAX_VALUE}) {
            due("spell " + n + " 0", h.spell(n, 0), UNKNOWN);
        }
        for (int n : new int[] {-1, 2, Integer.MIN_VALUE, Integer.MAX_VALUE}) {
            due("spell 0 " + n, h.spell(0, n), UNKNOWN);
        }
    }

    private static void clearOfNothing() {
        HeadSplits h = new HeadSplits();
        for (int v = 0; v < 3; v++) {
            due("clear " + v, h.clear(v), 0);
        }
        spell(h, 0, "a");
        spell(h, 1, "bb");
        spell(h, 2, "aba");
        due("clear 1", h.clear(1), 2);
        due("clear 1 again", h.clear(1), 0);
        dueTold(h, 0, "a");
        dueTold(h, 1, "");
        dueTold(h, 2, "aba");
    }

    private static void clearUnknown() {
        for (int n : new int[] {-1, 3, Integer.MIN_VALUE, Integer.MAX_VALUE}) {
            due("clear " + n, new HeadSplits().clear(n), UNKNOWN);
        }
    }

    private static void takeOf12And13() {
        due("take of 12", of("x=" + TWELVE).take(), 12);
        HeadSplits h = longShort(of("x=zaaaa"));
        due("take of 12 and 8", h.take(), 20);
        due("told 30", h.told(30), 12);
        due("told 32", h.told(32), 8);
        load(h, "x=zaaaaa");
        due("answer 0 -1", h.answer(0, -1), 13);
        due("take of 13 and 8", h.take(), FULL);
        due("told 30 stays", h.told(30), 12);
        load(h, "zaaaaa=y");
        due("take of 13, of y", h.take(), FULL);
        due("told 31 stays", h.told(31), 0);
        h = machine(of("z=yaaaaa"), 2, 0, 1, 0, 1, 0);
        needAll(h, 1, 2, 4, 4);
        due("take of 13, of z", h.take(), FULL);
    }

    private static void takeOfNothing() {
        HeadSplits h = of("=");
        spell(h, 0, "ab");
        spell(h, 2, TWELVE);
        due("take", h.take(), 0);
        for (int v = 0; v < 3; v++) {
            dueTold(h, v, "");
        }
    }

    private static void takeOfAll() {
        HeadSplits h = of("xy=ab");
        spell(h, 2, "b");
        h.need(0, 0, 1);
        due("take", h.take(), 2);
        due("x and y", h.told(30) + h.told(31), 2);
        due("z", h.told(32), 0);
        due("it fits", h.fits(), 0);
    }

    // ---- fits

    private static void fitsOfNothing() {
        due("no rows, no words", new HeadSplits().fits(), 0);
        due("x=, x is empty", of("x=").fits(), 0);
        due("a=", of("a=").fits(), 2);
        due("=b", of("=b").fits(), 2);
    }

    private static void fitsOfOneLetter() {
        due("a=a", of("a=a").fits(), 0);
        due("a=b", of("a=b").fits(), 2);
        due("the first is another", of("abb=bbb").fits(), 2);
        due("the last is another", of("abb=aba").fits(), 2);
        due("the left row goes on", of("ab=a").fits(), 2);
        due("the right row goes on", of("a=ab").fits(), 2);
    }

    private static void fitsInFourWays() {
        HeadSplits h = round(of("x=a"));
        h.need(0, 0, 2);
        due("empty: neither", h.fits(), 3);
        spell(h, 0, "a");
        due("a: both", h.fits(), 0);
        h.need(0, 0, 4);
        due("a: rows alone", h.fits(), 1);
        spell(h, 0, "a");
        due("aa: needs alone", h.fits(), 2);
    }

    private static void fitsOfWordsInNoRow() {
        for (int v = 0; v < 3; v++) {
            HeadSplits h = round(of("a=a"));
            h.need(v, 1, 5);
            due("empty: 1 stays", h.fits(), 1);
            spell(h, v, "a");
            due("a: 1 goes to 2", h.fits(), 0);
        }
    }

    private static void fitsOfNone() {
        HeadSplits h = of("=");
        h.need(2, 1, 0);
        due("to no state", h.fits(), 1);
    }

    /** 144 letters a row. */
    private static void fitsOfTheLongest() {
        HeadSplits h = of("xxxxxxxxxxxx=yyyyyyyyyyyy");
        spell(h, 0, TWELVE);
        spell(h, 1, TWELVE);
        due("all alike", h.fits(), 0);
        h.clear(1);
        spell(h, 1, TWELVE.substring(0, 11));
        due("12 fewer", h.fits(), 2);
        spell(h, 1, "a");
        due("the last is another", h.fits(), 2);
        load(h, "xxxxxxxxxxxx=xxxxxxxxxxxy");
        due("the last of all is another", h.fits(), 2);
    }

    // ---- lengths

    private static void lengthsFrom0To9() {
        HeadSplits h = of("=");
        for (int what = 0; what < 3; what++) {
            due("lengths " + what + " -1", h.lengths(what, -1), 1000);
            due("lengths " + what + " 0", h.lengths(what, 0), 0);
            due("lengths " + what + " 999", h.lengths(what, 999), 999);
            due("lengths " + what + " 1000", h.lengths(what, 1000), NONE);
        }
        load(h, "x=aaaaaaaaa");
        due("9: lengths 0 -1", h.lengths(0, -1), 100);
        due("9: lengths 0 0", h.lengths(0, 0), 900);
        due("9: lengths 0 99", h.lengths(0, 99), 999);
        load(h, "x=aaaaaaaaaa");
        due("10: lengths 0 -1", h.lengths(0, -1), 0);
        due("10: lengths 0 0", h.lengths(0, 0), NONE);
    }

    private static void lengthsOfEach() {
        due("x is 1", of("x=a").lengths(0, 0), 100);
        due("y is 1", of("y=a").lengths(0, 0), 10);
        due("z is 1", of("a=z").lengths(0, 0), 1);
        // 12 times 9, and no more
        HeadSplits h = of("zzzzzzzzzzzz=xxxxxxxxxxxx");
        due("lengths 0 -1", h.lengths(0, -1), 100);
        due("lengths 0 99", h.lengths(0, 99), 999);
    }

    /** Each that there is, from the least on: twice x and one more are as long as y and z. */
    private static void lengthsRising() {
        HeadSplits h = of("xax=yz");
        int i = 0;
        for (int code = 0; code <= 999; code++) {
            if (2 * (code / 100) + 1 == code / 10 % 10 + code % 10) {
                due("lengths 0 " + i, h.lengths(0, i), code);
                due("lengths 1 " + i, h.lengths(1, i), code);
                i++;
            }
        }
        due("lengths 0 -1", h.lengths(0, -1), i);
        due("lengths 0 " + i, h.lengths(0, i), NONE);
    }

    private static void lengthsOfNone() {
        HeadSplits h = of("a=bb");
        for (int what = 0; what < 3; what++) {
            due("lengths " + what + " -1", h.lengths(what, -1), 0);
            due("lengths " + what + " 0", h.lengths(what, 0), NONE);
        }
    }

    /** The rows are as long, but have not as many of each: a's of words do not help the b's. */
    private static void lengthsOfAsAndBs() {
        HeadSplits h = of("xb=a");
        int[] counts = {100, 0, 0};
        for (int what = 0; what < 3; what++) {
            due("xb=a: lengths " + what + " -1", h.lengths(what, -1), counts[what]);
        }
        load(h, "xb=aab");
        int[] firsts = {200, 200, NONE};
        for (int what = 0; what < 3; what++) {
            due("xb=aab: lengths " + what + " 0", h.lengths(what, 0), firsts[what]);
        }
        load(h, "xa=abb");
        firsts = new int[] {200, NONE, 200};
        for (int what = 0; what < 3; what++) {
            due("xa=abb: lengths " + what + " 0", h.lengths(what, 0), firsts[what]);
        }
    }

    private static void lengthsOfNoSuchOne() {
        HeadSplits h = of("x=a");
        for (int what = 0; what < 3; what++) {
            int count = what == 2 ? 0 : 100;
            for (int i : new int[] {count, -2, Integer.MIN_VALUE, Integer.MAX_VALUE}) {
                due("lengths " + what + " " + i, h.lengths(what, i), NONE);
            }
        }
    }

    private static void lengthsOutside() {
        for (int n : new int[] {-1, 3, Integer.MIN_VALUE, Integer.MAX_VALUE}) {
            due("lengths " + n + " -1", of("x=a").lengths(n, -1), OUTSIDE);
            due("lengths " + n + " 1000", of("x=a").lengths(n, 1000), OUTSIDE);
        }
    }

    // ---- shortest

    private static void dueShortest(HeadSplits h, int together, int x, int y, int z) {
        due("shortest -1", h.shortest(-1), together);
        due("shortest 0", h.shortest(0), x);
        due("shortest 1", h.shortest(1), y);
        due("shortest 2", h.shortest(2), z);
    }

    private static void shortestOfNothing() {
        dueShortest(new HeadSplits(), 0, 0, 0, 0);
        dueShortest(of("xyz="), 0, 0, 0, 0);
    }

    private static void threeLettersAtMost() {
        dueShortest(of("x=bbb"), 3, 307, 0, 0);
        dueShortest(of("x=bbbb"), NONE, NONE, NONE, NONE);
        dueShortest(of("xyz=aaaaaabbb"), 9, 300, 300, 307);
        dueShortest(of("xyz=aaaaaabbbb"), NONE, NONE, NONE, NONE);
    }

    private static void shortestOfNone() {
        for (String signs : new String[] {"a=b", "ax=baaa", "xa=aaab", "xx=aba", "xyz=zyxb"}) {
            dueShortest(of(signs), NONE, NONE, NONE, NONE);
        }
        for (int v = 0; v < 3; v++) {
            HeadSplits h = new HeadSplits();
            h.need(v, 0, 0);
            dueShortest(h, NONE, NONE, NONE, NONE);
        }
    }

    private static void theLeastTogether() {
        // xxx=bbb by one letter, where y and z would need three
        dueShortest(of("xxxyz=bbb"), 1, 101, 0, 0);
        dueShortest(of("xyyz=aab"), 2, 0, 100, 101);
    }

    private static void theFirstByXThenYThenZ() {
        dueShortest(of("xyz=ab"), 2, 0, 0, 202);
        dueShortest(of("yx=ab"), 2, 0, 202, 0);
        dueShortest(of("zyx=ab"), 2, 0, 0, 202);
        // both must have one letter, the same one: a first
        HeadSplits h = machine(of("xyz=yxz"), 1, 2, 2, 1, 2, 2);
        h.need(0, 0, 2);
        h.need(1, 0, 2);
        dueShortest(h, 2, 100, 100, 0);
    }

    /** Of as short by letters: by both letters from 0 to 1, and a is the first. */
    private static void ofAsShortByLetters() {
        HeadSplits h = machine(new HeadSplits(), 1, 1, 2, 1, 1, 2);
        for (int v = 0; v < 3; v++) {
            h.need(v, 0, 2);
        }
        dueShortest(h, 3, 100, 100, 100);
        // x=y and z=b: a would be as short, but does not fit
        load(h, "xz=yb");
        dueShortest(h, 3, 100, 100, 101);
    }

    private static int code(String word) {
        int code = 100 * word.length();
        for (int k = 0; k < word.length(); k++) {
            code += word.charAt(k) == 'b' ? 1 << k : 0;
        }
        return code;
    }

    /** Each of the 15 words, of each variable, on each side. */
    private static void lettersAsBits() {
        String[] words = {"", "a", "b", "aa", "ab", "ba", "bb", "aaa", "aab", "aba", "abb", "baa", "bab", "bba", "bbb"};
        int[] codes = {0, 100, 101, 200, 202, 201, 203, 300, 304, 302, 306, 301, 305, 303, 307};
        for (int n = 0; n < 15; n++) {
            String w = words[n];
            dueShortest(of("x=" + w), w.length(), codes[n], 0, 0);
            dueShortest(of(w + "=y"), w.length(), 0, codes[n], 0);
            dueShortest(of("bza=b" + w + "a"), w.length(), 0, 0, codes[n]);
        }
    }

    /** Of an equation of nothing it is the short word, if that has 3 letters at most; each machine. */
    private static void shortestIsAShortWord() {
        for (int n = 0; n < 729; n++) {
            HeadSplits h = machine(new HeadSplits(), n % 3, n / 3 % 3, n / 9 % 3, n / 27 % 3, n / 81 % 3, n / 243);
            int v = n % 2 + n / 3 % 2;
            for (int set = 1; set < 7; set++) {
                needAll(h, v, set, 7 - set, n % 7 + 1);
                int size = h.brief(v, -1);
                StringBuilder word = new StringBuilder();
                for (int i = 0; i < size; i++) {
                    word.append((char) ('a' + h.brief(v, i)));
                }
                boolean found = size >= 0 && size <= 3;
                due("machine " + n + ", set " + set + ": together", h.shortest(-1), found ? size : NONE);
                due("machine " + n + ", set " + set + ": word", h.shortest(v), found ? code(word.toString()) : NONE);
            }
        }
    }

    private static void shortestUnknown() {
        for (int n : new int[] {-2, 3, Integer.MIN_VALUE, Integer.MAX_VALUE}) {
            due("shortest " + n, new HeadSplits().shortest(n), UNKNOWN);
            due("shortest " + n + ", if there are none", of("a=b").shortest(n), UNKNOWN);
        }
    }

    /** It is that of what is told now, whatever was asked before. */
    private static void shortestOfNow() {
        HeadSplits h = of("x=a");
        dueShortest(h, 1, 100, 0, 0);
        h.need(0, 0, 2);
        due("hopeless", h.shortest(-1), NONE);
        h.leads(0, 0, 1);
        dueShortest(h, 1, 100, 0, 0);
        h.image(1);
        load(h, "xb=ab");
        dueShortest(h, 1, 100, 0, 0);
        due("lengths of xb=ab", h.lengths(0, 0), 100);
        load(h, "x=ab");
        dueShortest(h, 2, 202, 0, 0);
        h.restore(1);
        dueShortest(h, 1, 100, 0, 0);
    }

    // ---- images

    private static void imageOfANewObject() {
        for (int k = 0; k < 2; k++) {
            HeadSplits h = new HeadSplits();
            due("image " + k, h.image(k), 1);
            longShort(load(h, "x=a"));
            spell(h, 0, "ab");
            due("restore " + k, h.restore(k), 1);
            due("told 1", h.told(1) + h.told(2), 0);
            dueTold(h, 0, "");
            for (int n = 0; n < 6; n++) {
                due("told " + (10 + n), h.told(10 + n), n % 3);
            }
            for (int n = 0; n < 9; n++) {
                due("told " + (20 + n), h.told(20 + n), 7);
            }
        }
    }

    private static void imageOfAllThatIsFull() {
        String left = "xyzabxyzabxy", right = "azyxbazyxbaz";
        HeadSplits h = longShort(of(left + "=" + right));
        for (int v = 0; v < 3; v++) {
            spell(h, v, TWELVE);
        }
        h.image(1);
        machine(needAll(load(h, "="), 2, 7, 7, 7), 0, 1, 2, 0, 1, 2);
        for (int v = 0; v < 3; v++) {
            h.clear(v);
        }
        due("restore 1", h.restore(1), 1);
        dueNode(h, 0, left + "=" + right);
        int[] goes = {2, 0, 1, 0, 1, 0};
        for (int n = 0; n < 6; n++) {
            due("told " + (10 + n), h.told(10 + n), goes[n]);
        }
        int[] needs = {7, 7, 7, 7, 7, 7, 2, 4, 4};
        for (int n = 0; n < 9; n++) {
            due("told " + (20 + n), h.told(20 + n), needs[n]);
        }
        for (int v = 0; v < 3; v++) {
            dueTold(h, v, TWELVE);
        }
    }

    private static void allButThePad() {
        HeadSplits h = of("x=a");
        say(h, "yb");
        h.image(0);
        say(h, "=z");
        due("restore", h.restore(0), 1);
        due("told 0", h.told(0), 4);
        due("load of yb=z", h.load(), 3);
        dueNode(h, 0, "yb=z");
        due("restore", h.restore(0), 1);
        due("told 0", h.told(0), 0);
        dueNode(h, 0, "x=a");
    }

    /** What is told later does not reach into an image, nor does one image into the other. */
    private static void imagesStandAlone() {
        HeadSplits h = new HeadSplits();
        spell(h, 0, "a");
        h.image(0);
        spell(h, 0, "b");
        h.image(1);
        spell(h, 0, "a");
        due("restore 0", h.restore(0), 1);
        dueTold(h, 0, "a");
        spell(h, 0, "aa");
        due("restore 1: it is there still", h.restore(1), 1);
        dueTold(h, 0, "ab");
        due("restore 0 again", h.restore(0), 1);
        dueTold(h, 0, "a");
        h.clear(0);
        due("image 0 anew", h.image(0), 1);
        due("restore 1", h.restore(1), 1);
        dueTold(h, 0, "ab");
        due("restore 0", h.restore(0), 1);
        dueTold(h, 0, "");
    }

    private static void imageOutside() {
        for (int n : new int[] {-1, 2, Integer.MIN_VALUE, Integer.MAX_VALUE}) {
            HeadSplits h = new HeadSplits();
            due("image " + n, h.image(n), OUTSIDE);
            due("none is kept by that", h.restore(0), STATE);
            due("none is kept by that", h.restore(1), STATE);
        }
    }

    private static void restoreOfWhatWasNotKept() {
        for (int k = 0; k < 2; k++) {
            HeadSplits h = new HeadSplits();
            due("restore " + k, h.restore(k), STATE);
            h.image(1 - k);
            due("restore " + k + ", the other is kept", h.restore(k), STATE);
            due("restore " + (1 - k), h.restore(1 - k), 1);
            due("restore " + k + ", the other is back", h.restore(k), STATE);
        }
    }

    private static void restoreOutside() {
        for (int n : new int[] {-1, 2, Integer.MIN_VALUE, Integer.MAX_VALUE}) {
            HeadSplits h = new HeadSplits();
            h.image(0);
            h.image(1);
            due("restore " + n, h.restore(n), OUTSIDE);
        }
    }

    // ---- told

    private static void toldFromTheFirstToTheLast() {
        HeadSplits h = machine(of("xya=bz"), 2, 1, 1, 0, 0, 2);
        say(h, "=".repeat(40));
        int[] first = {40, 3, 2};
        for (int n = 0; n < 3; n++) {
            due("told " + n, h.told(n), first[n]);
        }
        int[] goes = {2, 1, 1, 0, 0, 2};
        for (int n = 0; n < 6; n++) {
            due("told " + (10 + n), h.told(10 + n), goes[n]);
        }
        int[] needs = {1, 2, 3, 4, 5, 6, 7, 0, 1};
        for (int v = 0; v < 3; v++) {
            needAll(h, v, needs[3 * v], needs[3 * v + 1], needs[3 * v + 2]);
        }
        for (int n = 0; n < 9; n++) {
            due("told " + (20 + n), h.told(20 + n), needs[n]);
        }
        for (int v = 0; v < 3; v++) {
            spell(h, v, TWELVE);
            dueTold(h, v, TWELVE);
        }
    }

    private static void toldOutside() {
        HeadSplits h = new HeadSplits();
        for (int v = 0; v < 3; v++) {
            spell(h, v, TWELVE);
        }
        int[] all = {-1, -100, 3, 4, 9, 16, 17, 18, 19, 29, 33, 34, 40, 99, 112, 150, 199, 212, 299, 312, 399,
            400, 401, 500, 1000, Integer.MIN_VALUE, Integer.MAX_VALUE};
        for (int what : all) {
            due("told " + what, h.told(what), OUTSIDE);
        }
    }

    private static void toldOfNoSuchLetter() {
        HeadSplits h = new HeadSplits();
        for (int what : new int[] {100, 200, 300}) {
            due("told " + what + ", of an empty word", h.told(what), OUTSIDE);
        }
        spell(h, 1, "b");
        due("told 200", h.told(200), 1);
        due("told 201", h.told(201), OUTSIDE);
        due("told 199", h.told(199), OUTSIDE);
        h.clear(1);
        due("told 200, of a word that was cleared", h.told(200), OUTSIDE);
    }

    // ---- the object

    /** The 512th call is as due as the first. */
    private static void usedFor512Calls() {
        HeadSplits h = new HeadSplits();
        for (int call = 1; call <= 511; call++) {
            switch (call % 8) {
                case 0: h.image(0); break;
                case 1: h.wipe(); break;
                case 2: h.say('x'); break;
                case 3: h.say('='); break;
                case 4: h.say(call % 16 < 8 ? 'a' : 'b'); break;
                case 5: h.load(); break;
                case 6: h.net(0); break;
                default: h.take(); break;
            }
        }
        due("the 512th call: x is b, of x=b", h.shortest(0), 101);
    }

    private static void answersAndWords() {
        sentence("each VARIABLE has its SHORT word by the NEEDS there", WordEdgesTest::shortWordsAtTheEnd);
        sentence("NOTHING: the VARIABLE has the empty WORD", WordEdgesTest::nothingHasTheEmptyWord);
        sentence("BEGINS: that of the other one ahead of its own", WordEdgesTest::beginsWithALetterOrAWord);
        sentence("known: 60 LETTERS", WordEdgesTest::sixtyLetters);
        sentence("not known: more than 60 LETTERS", WordEdgesTest::sixtyOneLetters);
        sentence("14, 17: STATE, it is not SOLVED", WordEdgesTest::notSolved);
        sentence("14, 17: STATE, it is not SOLVED any more", WordEdgesTest::notSolvedAnyMore);
        sentence("14: NONE", WordEdgesTest::answerOfNoSuchLetter);
        sentence("14: UNKNOWN", WordEdgesTest::answerUnknown);
        sentence("of up to 12 LETTERS; 15: FULL", WordEdgesTest::wordsOf12Letters);
        sentence("15: UNKNOWN, both", WordEdgesTest::spellUnknown);
        sentence("16: how many LETTERS it had", WordEdgesTest::clearOfNothing);
        sentence("16: UNKNOWN", WordEdgesTest::clearUnknown);
        sentence("17: FULL, one has more than 12", WordEdgesTest::takeOf12And13);
        sentence("17: how many LETTERS all have: none", WordEdgesTest::takeOfNothing);
        sentence("17: the WORDS told are those of the ANSWER", WordEdgesTest::takeOfAll);
        sentence("FITS: of nothing", WordEdgesTest::fitsOfNothing);
        sentence("FITS: they make both rows one", WordEdgesTest::fitsOfOneLetter);
        sentence("18: 0, 1, 2, 3", WordEdgesTest::fitsInFourWays);
        sentence("FITS: each is as its NEED has it", WordEdgesTest::fitsOfWordsInNoRow);
        sentence("FITS: a NEED of 0", WordEdgesTest::fitsOfNone);
        sentence("FITS: rows of 144 LETTERS", WordEdgesTest::fitsOfTheLongest);
    }

    private static void lengthsAndShortest() {
        sentence("LENGTHS: of each VARIABLE 0 to 9", WordEdgesTest::lengthsFrom0To9);
        sentence("100 times that of x, 10 times that of y, and that of z", WordEdgesTest::lengthsOfEach);
        sentence("LENGTHS: how many, the i-th (rising)", WordEdgesTest::lengthsRising);
        sentence("LENGTHS: none", WordEdgesTest::lengthsOfNone);
        sentence("as many a's, and as many b's", WordEdgesTest::lengthsOfAsAndBs);
        sentence("19: NONE", WordEdgesTest::lengthsOfNoSuchOne);
        sentence("19: OUTSIDE, what", WordEdgesTest::lengthsOutside);
        sentence("SHORTEST: of nothing", WordEdgesTest::shortestOfNothing);
        sentence("WORDS of 3 LETTERS at most each", WordEdgesTest::threeLettersAtMost);
        sentence("20: NONE, there are none", WordEdgesTest::shortestOfNone);
        sentence("those of the least LENGTHS together", WordEdgesTest::theLeastTogether);
        sentence("the first by x, then by y, then by z", WordEdgesTest::theFirstByXThenYThenZ);
        sentence("of as short by letters", WordEdgesTest::ofAsShortByLetters);
        sentence("20: LETTERS as bits, the first one lowest", WordEdgesTest::lettersAsBits);
        sentence("of all WORDS that FIT, by NEEDS alone", WordEdgesTest::shortestIsAShortWord);
        sentence("20: UNKNOWN", WordEdgesTest::shortestUnknown);
        sentence("20: of what is told", WordEdgesTest::shortestOfNow);
    }

    private static void imagesAndTold() {
        sentence("21, 22: of a new object", WordEdgesTest::imageOfANewObject);
        sentence("22: it is as it was when it was kept", WordEdgesTest::imageOfAllThatIsFull);
        sentence("21: all but the PAD", WordEdgesTest::allButThePad);
        sentence("21: an IMAGE (0, 1)", WordEdgesTest::imagesStandAlone);
        sentence("21: OUTSIDE", WordEdgesTest::imageOutside);
        sentence("22: STATE, it was not", WordEdgesTest::restoreOfWhatWasNotKept);
        sentence("22: OUTSIDE", WordEdgesTest::restoreOutside);
        sentence("23: the first and the last of each", WordEdgesTest::toldFromTheFirstToTheLast);
        sentence("23: OUTSIDE", WordEdgesTest::toldOutside);
        sentence("23: its i-th LETTER, or OUTSIDE", WordEdgesTest::toldOfNoSuchLetter);
        sentence("at most 512 calls", WordEdgesTest::usedFor512Calls);
    }

    public static void main(String[] args) {
        answersAndWords();
        lengthsAndShortest();
        imagesAndTold();
        endWith("the edges of promises 14 to 23 are as due");
    }
}
