import java.io.IOException;
import java.lang.reflect.Constructor;
import java.lang.reflect.Field;
import java.lang.reflect.Method;
import java.lang.reflect.Modifier;
import java.nio.file.Files;
import java.nio.file.Path;
import java.util.Arrays;
import java.util.HashSet;
import java.util.Set;
import java.util.TreeSet;
import java.util.regex.Matcher;
import java.util.regex.Pattern;

/** The public face is the document's and no more, and the source keeps to what LANGUAGE.md lets a text search see. */
public final class FaceTest {
    private static final String[] FACE = {"int begin(int,int)", "int wish(int,int,int,int)", "int change(int,int,int)",
        "int need(int,int,int)", "int wished(int,int,int)", "int changed(int,int)", "int needed(int,int)",
        "int feed(int)", "int clear()", "int rule(int)", "int drop()", "int row(int)", "int put(int,int,int)",
        "int at(int,int)", "int states(int)", "int next(int,int)", "int run()", "int allows(int)", "long count(int,int)",
        "int nth(long,int)", "long ahead(int)", "int may(int,int)", "int penalty(int)", "int best(int,int)",
        "int better(int)", "int accepted(int)", "int lacks(int,int)", "int mend(int)", "int repair(int)",
        "int swap(int,int,int,int)", "int swaps(int,int,int,int)", "int bestSwap(int)", "int improve(int)",
        "int worst(int)", "int judge(int,int)", "int lay(int,int,int)", "int spell(int,int)", "int paper(int)",
        "int sums(int)", "int list(int,int)", "int set(int,int,long)", "long get(int,int)", "int image()", "int undo()"};
    private static int wrong = 0;

    private static void must(boolean holds, String what) {
        if (!holds) {
            wrong++;
            System.out.println(what);
        }
    }

    public static void main(String[] args) throws IOException {
        face();
        inside();
        source();
        System.out.println(wrong == 0 ? "the face is as told" : wrong + " faults of the face");
        if (wrong != 0) {
            System.exit(1);
        }
    }

    private static Set<String> publicNames() {
        Set<String> names = new HashSet<>();
        for (String f : FACE) {
            names.add(f.substring(f.indexOf(' ') + 1, f.indexOf('(')));
        }
        return names;
    }

    private static void face() {
        must(Modifier.isFinal(RosterLanes.class.getModifiers()), "the class isn't final");
        must(Modifier.isPublic(RosterLanes.class.getModifiers()), "the class isn't public");
        Set<String> due = new TreeSet<>(Arrays.asList(FACE));
        Set<String> names = publicNames();
        Set<String> got = new TreeSet<>();
        for (Method m : RosterLanes.class.getDeclaredMethods()) {
            if (Modifier.isPrivate(m.getModifiers())) {
                must(!names.contains(m.getName()), "a private method bears a public name: " + m.getName());
            } else {
                StringBuilder text = new StringBuilder();
                for (Class<?> c : m.getParameterTypes()) {
                    text.append(text.length() == 0 ? "" : ",").append(c.getName());
                }
                got.add(m.getReturnType().getName() + " " + m.getName() + "(" + text + ")");
                must(m.getModifiers() == Modifier.PUBLIC, "modifiers of " + m.getName());
            }
        }
        must(got.equals(due), "methods: " + got);
        Constructor<?>[] made = RosterLanes.class.getDeclaredConstructors();
        must(made.length == 1 && made[0].getParameterCount() == 0 && Modifier.isPublic(made[0].getModifiers()),
                "the constructor");
        Set<String> open = new TreeSet<>();
        for (Field f : RosterLanes.class.getDeclaredFields()) {
            if (!Modifier.isPrivate(f.getModifiers())) {
                open.add(f.getType().getName() + " " + f.getName());
            }
        }
        must(open.equals(new TreeSet<>(Arrays.asList("int NONE", "int BAD", "int STATE", "int FULL", "long NO"))),
                "constants: " + open);
    }

    private static void inside() {
        Class<?>[] classes = RosterLanes.class.getDeclaredClasses();
        must(classes.length <= 12, "too many classes");
        Set<String> names = publicNames();
        for (Class<?> c : classes) {
            must(Modifier.isStatic(c.getModifiers()) && !Modifier.isPublic(c.getModifiers())
                    && !Modifier.isProtected(c.getModifiers()), "a class inside: " + c);
            fields(c);
            for (Method m : c.getDeclaredMethods()) {
                must(m.getParameterCount() <= 7, "too many parameters: " + m);
                must(!Modifier.isPrivate(m.getModifiers()) || !names.contains(m.getName()),
                        "a private method bears a public name: " + m);
            }
        }
        fields(RosterLanes.class);
    }

    private static void fields(Class<?> c) {
        int own = 0;
        for (Field f : c.getDeclaredFields()) {
            if (Modifier.isStatic(f.getModifiers())) {
                must(Modifier.isFinal(f.getModifiers()), "a static field that isn't final: " + f);
            } else {
                own++;
            }
        }
        must(own <= 20, "too many fields: " + c);
    }

    private static void source() throws IOException {
        String text = Files.readString(Path.of("src/main/java/RosterLanes.java"));
        String code = text.replaceAll("(?s)/\\*.*?\\*/", "").replaceAll("//[^\\n]*", "");
        String[] banned = {"\\bthrow\\b", "\\btry\\b", "\\bcatch\\b", "\\bsynchronized\\b", "\\bassert\\b", "->", "::",
            "\\bpackage\\b", "Exact\\b", "\\bRandom\\b", "\\bThread\\b", "System\\.(?!arraycopy)", "\\bhashCode\\b",
            "\\bprotected\\b", "\\bString\\b.*\\+", "\\[\\]\\[\\]\\[\\]"};
        for (String b : banned) {
            Matcher m = Pattern.compile(b).matcher(code);
            must(!m.find(), "not in the language: " + b);
        }
        Matcher imports = Pattern.compile("import ([^;]+);").matcher(code);
        while (imports.find()) {
            must(imports.group(1).equals("java.util.Arrays"), "an import: " + imports.group(1));
        }
        library(code);
        methodLengths(text.split("\n"));
    }

    /** What is named by its class is listed in the language, or one of the classes inside. */
    private static void library(String code) {
        Set<String> own = new TreeSet<>();
        for (Class<?> c : RosterLanes.class.getDeclaredClasses()) {
            own.add(c.getSimpleName());
        }
        String listed = "Arrays\\.(copyOf|copyOfRange|fill)|System\\.arraycopy|Math\\.(abs|max|min|floorDiv|floorMod)"
                + "|(Integer|Long)\\.(compare|bitCount|MIN_VALUE)";
        Matcher named = Pattern.compile("\\b([A-Z]\\w*)\\.\\w+").matcher(code);
        while (named.find()) {
            must(own.contains(named.group(1)) || named.group().matches(listed), "not listed: " + named.group());
        }
        must(!Pattern.compile("(for \\(;|; ;|;;|while \\(true)").matcher(code).find(), "a loop without an end");
    }

    /** A method begins and ends at the same indent; none is longer than sixty lines. */
    private static void methodLengths(String[] lines) {
        for (int i = 0; i < lines.length; i++) {
            Matcher head = Pattern.compile("^( {4}| {8})(?!for|if|while|switch)\\S.*\\) \\{$").matcher(lines[i]);
            if (head.find()) {
                int end = i;
                while (end < lines.length && !lines[end].equals(head.group(1) + "}")) {
                    end++;
                }
                must(end - i < 60, "a long method: " + lines[i].trim());
            }
        }
    }
}
