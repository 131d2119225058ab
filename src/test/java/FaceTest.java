import java.lang.reflect.Constructor;
import java.lang.reflect.Field;
import java.lang.reflect.Method;
import java.lang.reflect.Modifier;
import java.nio.charset.StandardCharsets;
import java.nio.file.Files;
import java.nio.file.Paths;
import java.util.Arrays;
import java.util.HashSet;
import java.util.Map;
import java.util.Set;
import java.util.TreeMap;
import java.util.TreeSet;
import java.util.regex.Matcher;
import java.util.regex.Pattern;

/** The public face, member by member, and what of ../shared/LANGUAGE.md can be read off the source. */
public final class FaceTest {
    private static final String[] FACE = {
        "int sign(int)", "boolean end(int)", "int league()", "int rule()", "int plan()", "int skill(int,int)",
        "int of(int,int)", "int law(int,int)", "int sheet(int,int,int,int,int)", "boolean ill(int,boolean)",
        "boolean swap(int,int)", "int circle()", "int game(int,int,int)", "int odds(int,int)",
        "int play(int,int,int)", "int undo()", "int judge(int,int)", "int rounds(int)", "int beats(int)",
        "int kings()", "int master(int)", "int table()", "int spread()", "int rest()", "int mean(int,int)",
        "int soon(int,int,int)", "int wins(int,int,int)", "int hopes(int)", "int top(int,int,int)",
        "int quick(int)", "int best(int,int)", "int even(int)", "int all()", "int next(int)",
        "int seen(int,int,int)", "int found()", "int prize()", "int pays(int,int)", "int laws(int)",
        "int seed(int)", "boolean keep(int)", "boolean again(int)", "int count(int)", "long row(int)"};

    private static int wrong = 0;

    public static void main(String[] args) throws Exception {
        face();
        source(new String(Files.readAllBytes(Paths.get(System.getProperty("source"))), StandardCharsets.ISO_8859_1));
        System.out.println(wrong == 0 ? "all is as due" : wrong + " things are not as due");
        System.exit(wrong == 0 ? 0 : 1);
    }

    private static void check(boolean right, String what) {
        if (!right) {
            wrong++;
            System.out.println(what);
        }
    }

    private static void face() {
        Class<?> c = WinnerTeaches.class;
        check(Modifier.isPublic(c.getModifiers()) && Modifier.isFinal(c.getModifiers()), "not public and final");
        Set<String> due = new TreeSet<>(Arrays.asList(FACE));
        Set<String> found = new TreeSet<>();
        Set<String> names = new HashSet<>();
        for (Method m : c.getDeclaredMethods()) {
            if (Modifier.isPublic(m.getModifiers())) {
                names.add(m.getName());
                StringBuilder b = new StringBuilder(m.getReturnType() + " " + m.getName() + "(");
                for (Class<?> p : m.getParameterTypes()) {
                    b.append(b.charAt(b.length() - 1) == '(' ? "" : ",").append(p);
                }
                found.add(b.append(")").toString());
            }
        }
        check(due.equals(found), "due are " + due + ", found " + found);
        for (Method m : c.getDeclaredMethods()) {
            boolean open = Modifier.isPublic(m.getModifiers());
            check(open || Modifier.isPrivate(m.getModifiers()), "neither public nor private: " + m);
            check(open || !names.contains(m.getName()), "a public one's name: " + m);
        }
        int fields = 0;
        for (Field f : c.getDeclaredFields()) {
            check(Modifier.isPrivate(f.getModifiers()) || f.getName().equals("NONE"), "not private: " + f);
            fields += Modifier.isStatic(f.getModifiers()) ? 0 : 1;
        }
        check(fields <= 20, fields + " fields");
        Constructor<?>[] made = c.getDeclaredConstructors();
        check(made.length == 1 && made[0].getParameterCount() == 0, "constructors");
        check(c.getDeclaredClasses().length <= 12, "classes");
        for (Class<?> inside : c.getDeclaredClasses()) {
            check(Modifier.isStatic(inside.getModifiers()) && !Modifier.isPublic(inside.getModifiers()), inside + " is open");
            for (Method m : inside.getDeclaredMethods()) {
                check(!names.contains(m.getName()), "a public one's name: " + m);
                check(m.getParameterCount() <= 7, "parameters of " + m);
            }
            for (Field f : inside.getDeclaredFields()) {
                check(!Modifier.isStatic(f.getModifiers()) || Modifier.isFinal(f.getModifiers()), "static state: " + f);
            }
        }
    }

    private static void source(String text) {
        for (int i = 0; i < text.length(); i++) {
            check(text.charAt(i) < 127, "sign " + (int) text.charAt(i) + " at " + i);
        }
        String code = text.replaceAll("(?s)/\\*.*?\\*/", "").replaceAll("//[^\n]*", "");
        String[] banned = {"->", "::", "\\bcatch\\b", "\\bfinally\\b", "\\bwhile\\b", "\\bassert\\b", "synchronized",
            "instanceof", "\\bpackage\\b", "\\bLambda", "\\bfloat\\b", "\\bdouble\\b", "Exact\\(", "System\\.(?!arraycopy)",
            "\"", "hashCode", "toString", "MAX_VALUE", "MIN_VALUE", "\\bthis\\b", "for \\(;;", "\t"};
        for (String b : banned) {
            Matcher m = Pattern.compile(b).matcher(code);
            check(!m.find(), "in the source: " + b);
        }
        Matcher library = Pattern.compile("\\b(import|Math|Integer|Long|Arrays|Character)\\b[ .]+([\\w.]+)").matcher(code);
        Set<String> known = new HashSet<>(Arrays.asList("Math.min", "Math.max", "Integer.bitCount",
                "import java.util.NoSuchElementException"));
        while (library.find()) {
            check(known.contains(library.group()), "in the source: " + library.group());
        }
        methods(code);
        depths(code);
    }

    private static void methods(String code) {
        int length = 0;
        String name = "";
        for (String line : code.split("\n")) {
            if (line.matches(" {4}(    )?(public|private|static|int|long|boolean|void|char|[A-Z])[^;=]*\\{")
                    && line.contains("(")) {
                name = line.trim();
                length = 0;
            }
            length++;
            check(length <= 60 || !line.matches(" {4}(    )?\\}"), "a long method: " + name);
        }
    }

    /** Calls go eight deep at most, those of the library counted, and none comes back to itself. */
    private static void depths(String code) {
        Map<String, Set<String>> calls = new TreeMap<>();
        String inside = "WinnerTeaches";
        String method = "";
        for (String line : code.split("\n")) {
            Matcher opens = Pattern.compile("^ {4}[a-z ]*class (\\w+) \\{").matcher(line);
            Matcher begins = Pattern.compile("^ {4}(?: {4})?[\\w\\[\\] ]*?(\\w+)\\([^()]*\\)[\\w ]*\\{$").matcher(line);
            if (opens.find()) {
                inside = opens.group(1);
            } else if (begins.find()) {
                method = inside + "." + begins.group(1);
                calls.putIfAbsent(method, new TreeSet<>());
            } else if (!method.isEmpty()) {
                Matcher call = Pattern.compile("(\\.)?\\b(\\w+)\\(").matcher(line);
                while (call.find()) {
                    calls.get(method).add((call.group(1) == null ? inside + "." : ".") + call.group(2));
                }
            }
        }
        check(calls.containsKey("Season.followGame") && calls.get("Season.followGame").contains(".settle"), "no calls were read");
        for (String from : calls.keySet()) {
            int deep = from.startsWith("WinnerTeaches.") ? depth(calls, from, 1) : 0;
            check(deep <= 8, from + " goes " + deep + " deep");
        }
    }

    /**
     * A name behind a point may be of any class that has it, or of the library; one without a point is
     * of the same class, or of the outer one.
     */
    private static int depth(Map<String, Set<String>> calls, String from, int above) {
        int deepest = 1;
        for (String call : above < 40 ? calls.get(from) : new TreeSet<String>()) {
            String outside = calls.containsKey(call) ? call : "WinnerTeaches." + call.substring(call.indexOf('.') + 1);
            for (String to : calls.keySet()) {
                if (call.startsWith(".") ? to.endsWith(call) : to.equals(outside)) {
                    deepest = Math.max(deepest, 1 + depth(calls, to, above + 1));
                }
            }
            deepest = call.startsWith(".") ? Math.max(deepest, 2) : deepest;
        }
        return above < 40 ? deepest : 40;
    }
}
