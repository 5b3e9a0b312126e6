import java.util.ArrayDeque;
import java.util.ArrayList;
import java.util.Arrays;
import java.util.HashMap;
import java.util.HashSet;
import java.util.List;
import java.util.Map;
import java.util.Random;
import java.util.Set;
import java.util.TreeSet;
import java.util.function.Consumer;

/**
 * Runs of calls against a plain model: rows and words are texts, needs are sets, each call works
 * out all anew. Runs are made from fixed seeds, so they are the same every time.
 */
public final class ModelTest {
    static final int UNKNOWN = -1, OUTSIDE = -2, STATE = -3, FULL = -4, NO = -5, NONE = -6;
    static final String VARIABLES = "xyz";

    /** What is told, but the pad. */
    static final class Told {
        String left = "";
        String right = "";
        int[][] goes = {{0, 1, 2}, {0, 1, 2}};
        List<List<Set<Integer>>> needs = new ArrayList<>();
        String[] words = {"", "", ""};

        Told() {
            for (int v = 0; v < 3; v++) {
                needs.add(new ArrayList<>(List.of(all(), all(), all())));
            }
        }

        Told copy() {
            Told t = new Told();
            t.left = left;
            t.right = right;
            t.goes = new int[][] {goes[0].clone(), goes[1].clone()};
            t.needs = copyNeeds(needs);
            t.words = words.clone();
            return t;
        }

        int leadsTo(int state, String word) {
            for (char c : word.toCharArray()) {
                state = goes[c - 'a'][state];
            }
            return state;
        }

        boolean meets(String word, List<Set<Integer>> need) {
            for (int s = 0; s < 3; s++) {
                if (!need.get(s).contains(leadsTo(s, word))) {
                    return false;
                }
            }
            return true;
        }

        /** The shortest word that meets a need, null if there is none. */
        String shortWord(List<Set<Integer>> need) {
            Set<String> met = new HashSet<>();
            ArrayDeque<String> queue = new ArrayDeque<>();
            queue.add("");
            while (!queue.isEmpty()) {
                String word = queue.remove();
                if (!met.add("" + leadsTo(0, word) + leadsTo(1, word) + leadsTo(2, word))) {
                    continue;
                }
                if (meets(word, need)) {
                    return word;
                }
                queue.add(word + "a");
                queue.add(word + "b");
            }
            return null;
        }

        boolean hopeless(List<List<Set<Integer>>> n) {
            for (int v = 0; v < 3; v++) {
                if (shortWord(n.get(v)) == null) {
                    return true;
                }
            }
            return false;
        }
    }

    static Set<Integer> all() {
        return new TreeSet<>(List.of(0, 1, 2));
    }

    static Set<Integer> setOf(int bits) {
        Set<Integer> set = new TreeSet<>();
        for (int s = 0; s < 3; s++) {
            if ((bits >> s & 1) == 1) {
                set.add(s);
            }
        }
        return set;
    }

    static int bitsOf(Set<Integer> set) {
        int bits = 0;
        for (int s : set) {
            bits += 1 << s;
        }
        return bits;
    }

    static List<List<Set<Integer>>> copyNeeds(List<List<Set<Integer>>> needs) {
        List<List<Set<Integer>>> copy = new ArrayList<>();
        for (List<Set<Integer>> need : needs) {
            List<Set<Integer>> one = new ArrayList<>();
            for (Set<Integer> set : need) {
                one.add(new TreeSet<>(set));
            }
            copy.add(one);
        }
        return copy;
    }

    static final class Node {
        String left;
        String right;
        List<List<Set<Integer>>> needs;
        int depth = 0;
        int parent = NONE;
        int by = NONE;
        boolean cut = false;
        List<int[]> moves = new ArrayList<>();

        Node(String left, String right, List<List<Set<Integer>>> needs) {
            while (!left.isEmpty() && !right.isEmpty() && left.charAt(0) == right.charAt(0)) {
                left = left.substring(1);
                right = right.substring(1);
            }
            this.left = left;
            this.right = right;
            this.needs = needs;
        }

        List<Object> key() {
            return List.of(left, right, needs);
        }
    }

    static final class Net {
        final Told told;
        final List<Node> nodes = new ArrayList<>();
        final Map<List<Object>, Integer> numbers = new HashMap<>();
        int firstEnd = NONE;

        Net(Told told) {
            this.told = told;
            Node first = new Node(told.left, told.right, copyNeeds(told.needs));
            nodes.add(first);
            numbers.put(first.key(), 0);
            for (int i = 0; i < nodes.size(); i++) {
                Node n = nodes.get(i);
                if (n.left.isEmpty() && n.right.isEmpty() && !told.hopeless(n.needs)) {
                    firstEnd = firstEnd == NONE ? i : firstEnd;
                } else {
                    nothing(i, n.left);
                    nothing(i, n.right);
                    if (!n.left.isEmpty() && !n.right.isEmpty()) {
                        begins(i, n.left.charAt(0), n.right.charAt(0));
                        begins(i, n.right.charAt(0), n.left.charAt(0));
                    }
                }
            }
        }

        void nothing(int i, String row) {
            Node n = nodes.get(i);
            if (row.isEmpty() || VARIABLES.indexOf(row.charAt(0)) < 0) {
                return;
            }
            String head = row.substring(0, 1);
            int v = VARIABLES.indexOf(head);
            for (int s = 0; s < 3; s++) {
                if (!n.needs.get(v).get(s).contains(s)) {
                    return;
                }
            }
            List<List<Set<Integer>>> needs = copyNeeds(n.needs);
            needs.set(v, new ArrayList<>(List.of(all(), all(), all())));
            lead(i, new Node(n.left.replace(head, ""), n.right.replace(head, ""), needs), 100 * v);
        }

        void begins(int i, char first, char other) {
            Node n = nodes.get(i);
            int v = VARIABLES.indexOf(first);
            int w = VARIABLES.indexOf(other);
            if (v < 0) {
                return;
            }
            String left = n.left.replace("" + first, "" + other + first);
            String right = n.right.replace("" + first, "" + other + first);
            if (w < 0) {
                List<List<Set<Integer>>> needs = copyNeeds(n.needs);
                for (int t = 0; t < 3; t++) {
                    Set<Integer> in = all();
                    for (int s = 0; s < 3; s++) {
                        if (told.goes[other - 'a'][s] == t) {
                            in.retainAll(n.needs.get(v).get(s));
                        }
                    }
                    needs.get(v).set(t, in);
                }
                lead(i, new Node(left, right, needs), 1000 + 100 * v);
                return;
            }
            TreeSet<Integer> turns = new TreeSet<>();
            boolean[] bound = new boolean[3];
            for (int s = 0; s < 3; s++) {
                bound[s] = n.needs.get(v).get(s).size() < 3;
            }
            for (int q0 = 0; q0 < (bound[0] ? 3 : 1); q0++) {
                for (int q1 = 0; q1 < (bound[1] ? 3 : 1); q1++) {
                    for (int q2 = 0; q2 < (bound[2] ? 3 : 1); q2++) {
                        turns.add(q0 + 3 * q1 + 9 * q2);
                    }
                }
            }
            for (int turn : turns) {
                int[] q = {turn % 3, turn / 3 % 3, turn / 9};
                List<List<Set<Integer>>> needs = copyNeeds(n.needs);
                needs.set(v, new ArrayList<>(List.of(all(), all(), all())));
                for (int s = 0; s < 3; s++) {
                    if (bound[s]) {
                        needs.get(w).get(s).retainAll(Set.of(q[s]));
                        needs.get(v).get(q[s]).retainAll(n.needs.get(v).get(s));
                    }
                }
                lead(i, new Node(left, right, needs), 1000 + 100 * v + turn);
            }
        }

        void lead(int i, Node to, int code) {
            Node n = nodes.get(i);
            if (told.hopeless(to.needs)) {
                return;
            }
            if (to.left.length() > 24 || to.right.length() > 24) {
                n.cut = true;
                return;
            }
            Integer number = numbers.get(to.key());
            if (number == null) {
                if (nodes.size() == 150) {
                    n.cut = true;
                    return;
                }
                number = nodes.size();
                to.depth = n.depth + 1;
                to.parent = i;
                to.by = code;
                nodes.add(to);
                numbers.put(to.key(), number);
            }
            n.moves.add(new int[] {number, code});
        }

        int cuts() {
            int cuts = 0;
            for (Node n : nodes) {
                cuts += n.cut ? 1 : 0;
            }
            return cuts;
        }

        /** The words of the answer, null if they are not known. */
        String[] answer() {
            if (firstEnd == NONE) {
                return null;
            }
            Node at = nodes.get(firstEnd);
            String[] words = new String[3];
            for (int v = 0; v < 3; v++) {
                words[v] = told.shortWord(at.needs.get(v));
            }
            while (at.parent != NONE) {
                Node before = nodes.get(at.parent);
                int v = at.by % 1000 / 100;
                if (at.by < 1000) {
                    words[v] = "";
                } else {
                    char u = before.left.charAt(0);
                    char other = u == VARIABLES.charAt(v) ? before.right.charAt(0) : u;
                    int w = VARIABLES.indexOf(other);
                    words[v] = (w < 0 ? "" + other : words[w]) + words[v];
                }
                if (words[v].length() > 60) {
                    return null;
                }
                at = before;
            }
            return words;
        }
    }

    /** The same face, worked out plainly. */
    static final class Model {
        String pad = "";
        Told told = new Told();
        final Told[] images = new Told[2];
        Net known = null;

        Net theNet() {
            if (known == null) {
                known = new Net(told);
            }
            return known;
        }

        int fault() {
            for (int n = 1; n <= pad.length(); n++) {
                if (!pad.substring(0, n).matches("[abxyz]{0,12}|[abxyz]{0,12}=[abxyz]{0,12}")) {
                    return n - 1;
                }
            }
            return pad.contains("=") ? NONE : pad.length();
        }

        int load() {
            if (fault() != NONE) {
                return NO;
            }
            told.left = pad.substring(0, pad.indexOf('='));
            told.right = pad.substring(pad.indexOf('=') + 1);
            pad = "";
            known = null;
            return told.left.length() + told.right.length();
        }

        int say(int sign) {
            if (sign < 33 || sign > 126) {
                return OUTSIDE;
            }
            if (pad.length() == 40) {
                return FULL;
            }
            pad += (char) sign;
            return pad.length();
        }

        int wipe() {
            int were = pad.length();
            pad = "";
            return were;
        }

        int leads(int s, int c, int to) {
            if (!in(s, 3) || !in(c, 2) || !in(to, 3)) {
                return UNKNOWN;
            }
            int was = told.goes[c][s];
            told.goes[c][s] = to;
            known = null;
            return was;
        }

        int need(int v, int s, int set) {
            if (!in(v, 3) || !in(s, 3)) {
                return UNKNOWN;
            }
            if (!in(set, 8)) {
                return OUTSIDE;
            }
            int was = bitsOf(told.needs.get(v).get(s));
            told.needs.get(v).set(s, setOf(set));
            known = null;
            return was;
        }

        int brief(int v, int i) {
            if (!in(v, 3)) {
                return UNKNOWN;
            }
            String word = told.shortWord(told.needs.get(v));
            return word == null ? NONE : ofWord(word, i);
        }

        int net(int what) {
            Net n = theNet();
            switch (what) {
                case 0: return n.nodes.size();
                case 1: return n.firstEnd != NONE ? 1 : n.cuts() == 0 ? 0 : 2;
                case 2: return n.firstEnd;
                case 3: return n.nodes.stream().mapToInt(x -> x.depth).max().getAsInt();
                case 4: return n.cuts();
                case 5:
                    int most = 0;
                    for (char c : VARIABLES.toCharArray()) {
                        most = Math.max(most, (int) (told.left + told.right).chars().filter(x -> x == c).count());
                    }
                    return most;
                default: return OUTSIDE;
            }
        }

        int node(int i, int what) {
            if (!in(i, theNet().nodes.size())) {
                return UNKNOWN;
            }
            Node n = theNet().nodes.get(i);
            int[] all = {n.left.length(), n.right.length(), n.depth, n.parent, n.by, n.moves.size(), n.cut ? 1 : 0};
            return in(what, 7) ? all[what] : OUTSIDE;
        }

        int symbol(int i, int row, int k) {
            if (!in(i, theNet().nodes.size())) {
                return UNKNOWN;
            }
            if (!in(row, 2)) {
                return OUTSIDE;
            }
            String text = row == 0 ? theNet().nodes.get(i).left : theNet().nodes.get(i).right;
            return in(k, text.length()) ? "abxyz".indexOf(text.charAt(k)) : NONE;
        }

        int needs(int i, int v, int s) {
            if (!in(i, theNet().nodes.size()) || !in(v, 3) || !in(s, 3)) {
                return UNKNOWN;
            }
            return bitsOf(theNet().nodes.get(i).needs.get(v).get(s));
        }

        int move(int i, int k, int what) {
            if (!in(i, theNet().nodes.size())) {
                return UNKNOWN;
            }
            if (!in(what, 2)) {
                return OUTSIDE;
            }
            List<int[]> moves = theNet().nodes.get(i).moves;
            return in(k, moves.size()) ? moves.get(k)[what] : NONE;
        }

        int answer(int v, int i) {
            if (!in(v, 3)) {
                return UNKNOWN;
            }
            String[] words = theNet().answer();
            return words == null ? STATE : ofWord(words[v], i);
        }

        int spell(int v, int c) {
            if (!in(v, 3) || !in(c, 2)) {
                return UNKNOWN;
            }
            if (told.words[v].length() == 12) {
                return FULL;
            }
            told.words[v] += c == 0 ? "a" : "b";
            return told.words[v].length();
        }

        int clear(int v) {
            if (!in(v, 3)) {
                return UNKNOWN;
            }
            int had = told.words[v].length();
            told.words[v] = "";
            return had;
        }

        int take() {
            String[] words = theNet().answer();
            if (words == null) {
                return STATE;
            }
            for (String w : words) {
                if (w.length() > 12) {
                    return FULL;
                }
            }
            told.words = words.clone();
            return String.join("", words).length();
        }

        static String put(String row, String[] words) {
            StringBuilder text = new StringBuilder();
            for (char c : row.toCharArray()) {
                text.append(VARIABLES.indexOf(c) < 0 ? "" + c : words[VARIABLES.indexOf(c)]);
            }
            return text.toString();
        }

        boolean rowsFit(String[] words) {
            return put(told.left, words).equals(put(told.right, words));
        }

        boolean needsFit(String[] words) {
            return told.meets(words[0], told.needs.get(0)) && told.meets(words[1], told.needs.get(1))
                    && told.meets(words[2], told.needs.get(2));
        }

        int fits() {
            return (rowsFit(told.words) ? 0 : 2) + (needsFit(told.words) ? 0 : 1);
        }

        int lengths(int what, int i) {
            if (!in(what, 3)) {
                return OUTSIDE;
            }
            List<Integer> list = new ArrayList<>();
            for (int code = 0; code < 1000; code++) {
                String c = what == 2 ? "b" : "a";
                String[] words = {c.repeat(code / 100), c.repeat(code / 10 % 10), c.repeat(code % 10)};
                String l = put(told.left, words);
                String r = put(told.right, words);
                if (l.length() == r.length()
                        && (what == 0 || l.replace("b", "").length() == r.replace("b", "").length())) {
                    list.add(code);
                }
            }
            return i == -1 ? list.size() : in(i, list.size()) ? list.get(i) : NONE;
        }

        int shortest(int v) {
            if (v != -1 && !in(v, 3)) {
                return UNKNOWN;
            }
            List<String> all = new ArrayList<>(List.of(""));
            for (int k = 0; k < 7; k++) {
                all.add(all.get(k) + "a");
                all.add(all.get(k) + "b");
            }
            String[] best = null;
            for (String x : all) {
                for (String y : all) {
                    for (String z : all) {
                        String[] words = {x, y, z};
                        if ((best == null || (x + y + z).length() < String.join("", best).length())
                                && rowsFit(words) && needsFit(words)) {
                            best = words;
                        }
                    }
                }
            }
            if (best == null) {
                return NONE;
            }
            if (v == -1) {
                return String.join("", best).length();
            }
            int code = 100 * best[v].length();
            for (int k = 0; k < best[v].length(); k++) {
                code += best[v].charAt(k) == 'b' ? 1 << k : 0;
            }
            return code;
        }

        int image(int k) {
            if (!in(k, 2)) {
                return OUTSIDE;
            }
            images[k] = told.copy();
            return 1;
        }

        int restore(int k) {
            if (!in(k, 2)) {
                return OUTSIDE;
            }
            if (images[k] == null) {
                return STATE;
            }
            told = images[k].copy();
            known = null;
            return 1;
        }

        int told(int what) {
            Map<Integer, Integer> all = new HashMap<>();
            all.put(0, pad.length());
            all.put(1, told.left.length());
            all.put(2, told.right.length());
            for (int s = 0; s < 3; s++) {
                all.put(10 + s, told.goes[0][s]);
                all.put(13 + s, told.goes[1][s]);
                for (int v = 0; v < 3; v++) {
                    all.put(20 + 3 * v + s, bitsOf(told.needs.get(v).get(s)));
                }
            }
            for (int v = 0; v < 3; v++) {
                all.put(30 + v, told.words[v].length());
                for (int i = 0; i < told.words[v].length(); i++) {
                    all.put(100 * v + 100 + i, told.words[v].charAt(i) - 'a');
                }
            }
            return all.getOrDefault(what, OUTSIDE);
        }

        static boolean in(int n, int bound) {
            return n >= 0 && n < bound;
        }

        static int ofWord(String word, int i) {
            return i == -1 ? word.length() : in(i, word.length()) ? word.charAt(i) - 'a' : NONE;
        }
    }

    /** One run: an object, its model, and what was called, to be told if an answer is wrong. */
    static final class Run {
        /** What was told, so that it can be told again to a new object. */
        final List<Consumer<HeadSplits>> telling = new ArrayList<>();
        HeadSplits h = new HeadSplits();
        int used = 0;
        final Model m = new Model();
        final Random random;
        final List<String> calls = new ArrayList<>();
        boolean wrong = false;
        int[] verdicts = new int[3];

        Run(long seed) {
            random = new Random(seed);
        }

        int due(String call, int got, int want) {
            used++;
            calls.add(call + " " + got);
            if (got != want && !wrong) {
                wrong = true;
                System.out.println("answered " + got + ", due is " + want + ", at the end of " + calls);
            }
            return want;
        }

        /** Mostly as told, sometimes just outside, seldom far away. */
        int about(int bound) {
            int kind = random.nextInt(40);
            if (kind == 0) {
                return -1 - random.nextInt(3);
            }
            if (kind == 1) {
                return bound + random.nextInt(3);
            }
            if (kind == 2 && random.nextInt(4) == 0) {
                return random.nextBoolean() ? Integer.MAX_VALUE - random.nextInt(3) : Integer.MIN_VALUE + random.nextInt(3);
            }
            return random.nextInt(Math.max(bound, 1));
        }

        void sayAll(String text) {
            for (char c : text.toCharArray()) {
                due("say " + (int) c, h.say(c), m.say(c));
            }
        }

        String equation() {
            StringBuilder text = new StringBuilder();
            int most = 1 + random.nextInt(random.nextInt(6) == 0 ? 12 : 6);
            String symbols = List.of("abxyz", "abxy", "xyz", "xy", "abx", "axyz").get(random.nextInt(6));
            for (int side = 0; side < 2; side++) {
                text.append(side == 0 ? "" : "=");
                int n = random.nextInt(most + 1);
                for (int k = 0; k < n; k++) {
                    text.append(symbols.charAt(random.nextInt(symbols.length())));
                }
            }
            return text.toString();
        }

        void tell() {
            switch (random.nextInt(10)) {
                case 0:
                    due("wipe", h.wipe(), m.wipe());
                    sayAll(equation());
                    due("fault", h.fault(), m.fault());
                    due("load", h.load(), m.load());
                    break;
                case 1: case 2: {
                    int s = about(3), c = about(2), to = about(3);
                    due("leads " + s + " " + c + " " + to, h.leads(s, c, to), m.leads(s, c, to));
                    break;
                }
                case 3: case 4: case 5: {
                    int v = about(3), s = about(3), set = random.nextInt(3) == 0 ? 7 : about(8);
                    due("need " + v + " " + s + " " + set, h.need(v, s, set), m.need(v, s, set));
                    break;
                }
                case 6: {
                    int k = about(2);
                    due("image " + k, h.image(k), m.image(k));
                    break;
                }
                case 7: {
                    int k = about(2);
                    due("restore " + k, h.restore(k), m.restore(k));
                    break;
                }
                case 8: {
                    int v = about(3), c = about(2);
                    due("spell " + v + " " + c, h.spell(v, c), m.spell(v, c));
                    break;
                }
                default:
                    if (random.nextInt(4) == 0) {
                        int v = about(3);
                        due("clear " + v, h.clear(v), m.clear(v));
                    } else {
                        int sign = random.nextInt(8) == 0 ? 30 + random.nextInt(100) : "abxyz=".charAt(random.nextInt(6));
                        due("say " + sign, h.say(sign), m.say(sign));
                        due("fault", h.fault(), m.fault());
                    }
            }
        }

        void ask() {
            int nodes = m.net(0);
            switch (random.nextInt(12)) {
                case 0: { int w = about(6); due("net " + w, h.net(w), m.net(w)); break; }
                case 1: { int i = about(nodes), w = about(7); due("node " + i + " " + w, h.node(i, w), m.node(i, w)); break; }
                case 2: { int i = about(nodes), r = about(2), k = about(6);
                    due("symbol " + i + " " + r + " " + k, h.symbol(i, r, k), m.symbol(i, r, k)); break; }
                case 3: { int i = about(nodes), v = about(3), s = about(3);
                    due("needs " + i + " " + v + " " + s, h.needs(i, v, s), m.needs(i, v, s)); break; }
                case 4: { int i = about(nodes), k = about(4), w = about(2);
                    due("move " + i + " " + k + " " + w, h.move(i, k, w), m.move(i, k, w)); break; }
                case 5: { int v = about(3), i = about(6) - 1; due("answer " + v + " " + i, h.answer(v, i), m.answer(v, i)); break; }
                case 6: due("take", h.take(), m.take()); break;
                case 7: due("fits", h.fits(), m.fits()); break;
                case 8: { int w = about(3), i = about(100) - 1; due("lengths " + w + " " + i, h.lengths(w, i), m.lengths(w, i)); break; }
                case 9: { int v = about(4) - 1; due("shortest " + v, h.shortest(v), m.shortest(v)); break; }
                case 10: { int v = about(3), i = about(5) - 1; due("brief " + v + " " + i, h.brief(v, i), m.brief(v, i)); break; }
                default: { int w = random.nextInt(4) == 0 ? about(420) : about(34); due("told " + w, h.told(w), m.told(w)); }
            }
        }

        /** The document promises 512 calls of an object: the next questions get a new one. */
        void renew() {
            h = new HeadSplits();
            for (Consumer<HeadSplits> t : telling) {
                t.accept(h);
            }
            used = telling.size();
        }

        /** An equation, machine and needs at random, once for all. */
        void tellAtOnce() {
            for (int k = 0; k < 6; k++) {
                if (random.nextInt(3) > 0) {
                    int s = k % 3, c = k / 3, to = random.nextInt(3);
                    due("leads " + k + " " + to, h.leads(s, c, to), m.leads(s, c, to));
                    telling.add(x -> x.leads(s, c, to));
                }
            }
            for (int k = 0; k < 9; k++) {
                if (random.nextInt(3) == 0) {
                    int v = k / 3, s = k % 3, set = 1 + random.nextInt(7);
                    due("need " + k + " " + set, h.need(v, s, set), m.need(v, s, set));
                    telling.add(x -> x.need(v, s, set));
                }
            }
            String signs = equation();
            sayAll(signs);
            for (char sign : signs.toCharArray()) {
                telling.add(x -> x.say(sign));
            }
            due("load", h.load(), m.load());
            telling.add(HeadSplits::load);
        }

        void wholeNet() {
            for (int w = 0; w < 6; w++) {
                due("net " + w, h.net(w), m.net(w));
            }
            verdicts[m.net(1)]++;
            for (int i = 0; i < m.net(0); i++) {
                // a node takes some 130 calls at the most
                if (used > 350) {
                    renew();
                }
                for (int w = 0; w < 7; w++) {
                    due("node " + i + " " + w, h.node(i, w), m.node(i, w));
                }
                for (int k = 0; k <= m.node(i, 5); k++) {
                    due("move " + i + " " + k, h.move(i, k, 0), m.move(i, k, 0));
                    due("move " + i + " " + k, h.move(i, k, 1), m.move(i, k, 1));
                }
                for (int row = 0; row < 2; row++) {
                    for (int k = 0; k <= m.node(i, row); k++) {
                        due("symbol " + i + " " + row + " " + k, h.symbol(i, row, k), m.symbol(i, row, k));
                    }
                }
                for (int k = 0; k < 9; k++) {
                    due("needs " + i, h.needs(i, k / 3, k % 3), m.needs(i, k / 3, k % 3));
                }
            }
            renew();
            for (int v = 0; v < 3; v++) {
                for (int i = -1; i <= m.answer(v, -1); i++) {
                    due("answer " + v + " " + i, h.answer(v, i), m.answer(v, i));
                }
                due("shortest " + v, h.shortest(v), m.shortest(v));
            }
            sense();
        }

        /** What must hold by the meaning: an answer fits, and what is refuted has no words that fit. */
        void sense() {
            if (h.net(1) == 1 && h.answer(0, -1) != STATE) {
                m.told.words = m.theNet().answer();
                due("the answer fits", 0, m.fits());
                m.told.words = new String[] {"", "", ""};
                for (int v = 0; v < 3; v++) {
                    h.clear(v);
                }
            }
            if (h.net(1) == 0) {
                due("refuted: none is shortest", h.shortest(-1), NONE);
            }
        }
    }

    public static void main(String[] args) {
        int wrong = 0;
        for (int seed = 0; seed < 1500; seed++) {
            Run run = new Run(seed);
            // one step of telling takes 28 calls at the most
            while (run.used < 480 && !run.wrong) {
                if (run.random.nextInt(3) == 0) {
                    run.tell();
                } else {
                    run.ask();
                }
            }
            wrong += run.wrong ? 1 : 0;
        }
        int[] verdicts = new int[3];
        for (int seed = 0; seed < 1500; seed++) {
            Run run = new Run(-1 - seed);
            run.tellAtOnce();
            run.wholeNet();
            wrong += run.wrong ? 1 : 0;
            for (int k = 0; k < 3; k++) {
                verdicts[k] += run.verdicts[k];
            }
        }
        System.out.println("refuted, solved, open: " + Arrays.toString(verdicts));
        System.out.println(wrong == 0 ? "all runs are as the model has them" : wrong + " runs are not as the model has them");
        if (wrong != 0) {
            System.exit(1);
        }
    }
}
