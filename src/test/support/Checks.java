/** What the tests by hand share: what is due, equations by their signs, two machines. */
class Checks {
    /** As the document has them: the class is not asked for what it must be held to. */
    static final int UNKNOWN = -1, OUTSIDE = -2, STATE = -3, FULL = -4, NO = -5, NONE = -6;
    static final int[] FAR = {-1, -2, Integer.MIN_VALUE, Integer.MAX_VALUE};
    private static String about = "";
    private static int wrong = 0;

    /** What the answers are due by, until another is named: a promise, or a sentence. */
    static void about(String what) {
        about = what;
    }

    static void sentence(String words, Runnable test) {
        about(words);
        test.run();
    }

    static void due(String call, int got, int want) {
        if (got != want) {
            wrong++;
            System.out.println(about + ": " + call + " answered " + got + ", due is " + want);
        }
    }

    static void due(String what, String got, String want) {
        if (!got.equals(want)) {
            wrong++;
            System.out.println(about + ": " + what + " is " + got + ", due is " + want);
        }
    }

    static void endWith(String allIsWell) {
        System.out.println(wrong == 0 ? allIsWell : wrong + " answers are not as due");
        if (wrong != 0) {
            System.exit(1);
        }
    }

    static void say(HeadSplits h, String signs) {
        for (char c : signs.toCharArray()) {
            h.say(c);
        }
    }

    static void spell(HeadSplits h, int variable, String letters) {
        for (char c : letters.toCharArray()) {
            h.spell(variable, c - 'a');
        }
    }

    static HeadSplits load(HeadSplits h, String signs) {
        h.wipe();
        say(h, signs);
        due("load of " + signs, h.load(), signs.length() - 1);
        return h;
    }

    static HeadSplits of(String signs) {
        return load(new HeadSplits(), signs);
    }

    static int fault(String signs) {
        HeadSplits h = new HeadSplits();
        say(h, signs);
        return h.fault();
    }

    /** Where a leads to from 0, 1, 2, then where b does. */
    static HeadSplits machine(HeadSplits h, int... goes) {
        for (int k = 0; k < 6; k++) {
            h.leads(k % 3, k / 3, goes[k]);
        }
        return h;
    }

    static HeadSplits needAll(HeadSplits h, int variable, int of0, int of1, int of2) {
        h.need(variable, 0, of0);
        h.need(variable, 1, of1);
        h.need(variable, 2, of2);
        return h;
    }

    /** By a the machine goes round, 0 to 1 to 2 to 0; by b it stays. */
    static HeadSplits round(HeadSplits h) {
        return machine(h, 1, 2, 0, 0, 1, 2);
    }

    /** A machine and a need of z of which the short word has 8 letters: no machine needs more. */
    static HeadSplits longShort(HeadSplits h) {
        return needAll(machine(h, 2, 0, 1, 0, 1, 0), 2, 2, 4, 4);
    }

    static String row(HeadSplits h, int node, int row) {
        StringBuilder text = new StringBuilder();
        for (int k = 0; h.symbol(node, row, k) >= 0; k++) {
            text.append("abxyz".charAt(h.symbol(node, row, k)));
        }
        return text.toString();
    }

    static void dueNode(HeadSplits h, int node, String rows) {
        due("node " + node, row(h, node, 0) + "=" + row(h, node, 1), rows);
    }

    static void dueNeeds(HeadSplits h, int node, int variable, int of0, int of1, int of2) {
        due("needs " + node + " " + variable + " 0", h.needs(node, variable, 0), of0);
        due("needs " + node + " " + variable + " 1", h.needs(node, variable, 1), of1);
        due("needs " + node + " " + variable + " 2", h.needs(node, variable, 2), of2);
    }

    /** All moves of a node that lead to one, each by its code, and not one more. */
    static void dueMoves(HeadSplits h, int node, int... codes) {
        due("moves of node " + node, h.node(node, 5), codes.length);
        for (int k = 0; k < codes.length; k++) {
            due("move " + node + " " + k + " 1", h.move(node, k, 1), codes[k]);
        }
        due("move " + node + " behind the last", h.move(node, codes.length, 1), NONE);
    }

    /** What net(0), net(1) and so on tell, as many as are given. */
    static void dueNet(HeadSplits h, int... all) {
        for (int what = 0; what < all.length; what++) {
            due("net " + what, h.net(what), all[what]);
        }
    }

    static void dueAnswer(HeadSplits h, int variable, String word) {
        due("answer " + variable + " -1", h.answer(variable, -1), word.length());
        for (int i = 0; i < word.length(); i++) {
            due("answer " + variable + " " + i, h.answer(variable, i), word.charAt(i) - 'a');
        }
        due("answer " + variable + " behind its end", h.answer(variable, word.length()), NONE);
    }

    static void dueBrief(HeadSplits h, int variable, String word) {
        due("brief " + variable + " -1", h.brief(variable, -1), word.length());
        for (int i = 0; i < word.length(); i++) {
            due("brief " + variable + " " + i, h.brief(variable, i), word.charAt(i) - 'a');
        }
        due("brief " + variable + " behind its end", h.brief(variable, word.length()), NONE);
    }
}
