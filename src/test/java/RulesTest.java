import java.io.IOException;
import java.lang.management.ManagementFactory;
import java.lang.reflect.Constructor;
import java.lang.reflect.Field;
import java.lang.reflect.Method;
import java.lang.reflect.Modifier;
import java.nio.file.Files;
import java.nio.file.Path;
import java.util.ArrayList;
import java.util.Arrays;
import java.util.List;
import java.util.TreeSet;
import java.util.regex.Matcher;
import java.util.regex.Pattern;

/** The public face, and what of LANGUAGE.md can be seen in the source or by reflection. */
public final class RulesTest {
    private static final String SOURCE = "src/main/java/HeadSplits.java";
    private static int wrong = 0;

    private static void check(String what, boolean holds) {
        if (!holds) {
            wrong++;
            System.out.println("does not hold: " + what);
        }
    }

    private static final String[] FACE = {
        "answer(int,int)", "brief(int,int)", "clear(int)", "fault()", "fits()", "image(int)",
        "leads(int,int,int)", "lengths(int,int)", "load()", "move(int,int,int)", "need(int,int,int)",
        "needs(int,int,int)", "net(int)", "node(int,int)", "restore(int)", "say(int)", "shortest(int)",
        "spell(int,int)", "symbol(int,int,int)", "take()", "told(int)", "wipe()",
    };

    private static void face() {
        TreeSet<String> methods = new TreeSet<>();
        for (Method m : HeadSplits.class.getDeclaredMethods()) {
            if (!Modifier.isPrivate(m.getModifiers())) {
                check(m + " is public, answers int", Modifier.isPublic(m.getModifiers())
                        && !Modifier.isStatic(m.getModifiers()) && m.getReturnType() == int.class);
                StringBuilder types = new StringBuilder();
                for (Class<?> c : m.getParameterTypes()) {
                    types.append(types.length() > 0 ? "," : "").append(c.getName());
                }
                methods.add(m.getName() + "(" + types + ")");
            }
        }
        check("the methods are those of the document: " + methods, methods.equals(new TreeSet<>(Arrays.asList(FACE))));
        TreeSet<String> constants = new TreeSet<>();
        for (Field f : HeadSplits.class.getDeclaredFields()) {
            if (!Modifier.isPrivate(f.getModifiers())) {
                constants.add(f.getName());
                check(f + " is a constant", Modifier.isPublic(f.getModifiers())
                        && Modifier.isStatic(f.getModifiers()) && Modifier.isFinal(f.getModifiers()));
            }
        }
        check("the constants are those of the document: " + constants,
                constants.equals(new TreeSet<>(Arrays.asList("UNKNOWN", "OUTSIDE", "STATE", "FULL", "NO", "NONE"))));
        Constructor<?>[] made = HeadSplits.class.getDeclaredConstructors();
        check("one public constructor without parameters",
                made.length == 1 && Modifier.isPublic(made[0].getModifiers()) && made[0].getParameterCount() == 0);
        check("public and final", HeadSplits.class.getModifiers() == (Modifier.PUBLIC | Modifier.FINAL));
    }

    private static void classesInside() {
        TreeSet<String> names = new TreeSet<>();
        for (String f : FACE) {
            names.add(f.substring(0, f.indexOf('(')));
        }
        Class<?>[] inside = HeadSplits.class.getDeclaredClasses();
        check("twelve classes at most, not " + (inside.length + 1), inside.length + 1 <= 12);
        List<Class<?>> all = new ArrayList<>(Arrays.asList(inside));
        all.add(HeadSplits.class);
        for (Class<?> c : all) {
            check(c + " is static", c == HeadSplits.class || Modifier.isStatic(c.getModifiers()));
            int fields = 0;
            for (Field f : c.getDeclaredFields()) {
                if (Modifier.isStatic(f.getModifiers())) {
                    check(f + " is final", Modifier.isFinal(f.getModifiers()));
                } else {
                    fields++;
                }
            }
            check(c + " has twenty fields at most, not " + fields, fields <= 20);
            for (Method m : c.getDeclaredMethods()) {
                check(m + " takes seven parameters at most", m.getParameterCount() <= 7);
                check(m + " bears a name of the face", c == HeadSplits.class && Modifier.isPublic(m.getModifiers())
                        || !names.contains(m.getName()));
            }
        }
    }

    private static void source() throws IOException {
        String text = Files.readString(Path.of(SOURCE));
        String code = text.replaceAll("(?s)/\\*.*?\\*/", " ").replaceAll("//[^\n]*", " ");
        String[] words = {"throw", "throws", "try", "catch", "finally", "synchronized", "assert", "package",
            "Exception", "equals", "hashCode", "toString", "Object", "System", "Thread", "Random", "static \\{"};
        for (String w : words) {
            check("no " + w, !Pattern.compile("\\b" + w + "(?!\\w)").matcher(code).find());
        }
        check("no lambda, no arrow", !code.contains("->"));
        check("no method reference", !code.contains("::"));
        check("no Exact", !code.contains("Exact"));
        Matcher imports = Pattern.compile("import ([^;]*);").matcher(code);
        while (imports.find()) {
            check("no import of " + imports.group(1), imports.group(1).equals("java.util.Arrays"));
        }
        for (int k = 0; k < text.length(); k++) {
            check("signs of the source are plain, at " + k, text.charAt(k) < 128);
        }
        methodsAreShort(text);
    }

    private static void methodsAreShort(String text) {
        String[] lines = text.split("\n");
        for (int from = 0; from < lines.length; from++) {
            Matcher head = Pattern.compile("^( {4}| {8})[^ /*].*\\) \\{$").matcher(lines[from]);
            if (head.find()) {
                int to = from;
                while (to < lines.length && !lines[to].equals(head.group(1) + "}")) {
                    to++;
                }
                check("a method of " + (to - from + 1) + " lines at line " + (from + 1), to - from < 60);
            }
        }
    }

    /** A dear run: a full net is asked for again and again. All that it makes stays in the room. */
    private static void room() {
        com.sun.management.ThreadMXBean bean = (com.sun.management.ThreadMXBean) ManagementFactory.getThreadMXBean();
        long id = Thread.currentThread().getId();
        long before = bean.getThreadAllocatedBytes(id);
        HeadSplits x = new HeadSplits();
        for (int call = 0; call < 512; call++) {
            switch (call % 8) {
                case 0: x.leads(call / 8 % 3, call / 24 % 2, call / 48 % 3); break;
                case 1: x.need(call / 8 % 3, call / 24 % 3, 1 + call / 72 % 7); break;
                case 2: x.net(0); break;
                case 3: x.shortest(-1); break;
                case 4: x.take(); break;
                case 5: x.image(call / 8 % 2); break;
                case 6: x.lengths(0, -1); break;
                default: if (call < 120) { x.say("xyzxy=yxazyx".charAt(call / 8 % 12)); } else { x.load(); } break;
            }
        }
        long made = bean.getThreadAllocatedBytes(id) - before;
        check("a run makes little, not " + made + " bytes", made < 1_000_000);
    }

    public static void main(String[] args) throws IOException {
        face();
        classesInside();
        source();
        room();
        System.out.println(wrong == 0 ? "all rules hold" : wrong + " rules do not hold");
        if (wrong != 0) {
            System.exit(1);
        }
    }
}
