import java.io.IOException;
import java.lang.reflect.Constructor;
import java.lang.reflect.Field;
import java.lang.reflect.Method;
import java.lang.reflect.Modifier;
import java.nio.file.Files;
import java.nio.file.Path;
import java.util.ArrayList;
import java.util.Arrays;
import java.util.Collections;
import java.util.HashSet;
import java.util.List;
import java.util.Set;
import java.util.TreeSet;
import java.util.regex.Matcher;
import java.util.regex.Pattern;

/** The public face is the document's and no more, and the file keeps to those rules that can be counted. */
public final class FaceTest {
    private static final Path DOCUMENT = Path.of("..", "shared", "DOC.md");
    private static final String GONE = " throws NoSuchElementException";
    private static final String WRONG = GONE + ",IllegalArgumentException";
    private static final String[] FACE = {
        "boolean net(int,int,int)", "boolean line(int,int,int)" + GONE, "boolean off(int,int,int)" + GONE,
        "int feed(int,int,int,int,int)", "int read(int,int)" + WRONG, "int fault()",
        "boolean turned(int,int,int,int,int)", "boolean glued(int,int,int,int)" + GONE, "boolean copy(int,int)" + GONE,
        "int about(int,int)" + GONE, "int lineAt(int,int)" + GONE, "int distance(int,int,int)" + GONE,
        "int far(int,int)" + GONE, "int apart(int,int,int)" + GONE, "long poly(int,int)" + WRONG,
        "int above(int,int)" + WRONG, "long walks(int,int)" + WRONG, "boolean change(int,int,int,boolean)" + GONE,
        "int better(int)" + GONE, "int cool(int,int,int,int)" + WRONG,
        "int seek(int,int,int,int) throws IllegalArgumentException",
        "int small(int,int,int) throws IllegalArgumentException", "int found(int)" + GONE,
        "int bound(int,int) throws IllegalArgumentException", "int falls(int,int,int)" + WRONG,
        "int fallen(int)" + GONE, "int halves(int)" + GONE, "int lay(int,int)" + WRONG, "int laid(int)" + GONE,
        "int hop(int,int,int)" + GONE, "boolean locks(int)" + GONE, "int load(int,int,int)" + GONE,
        "int heavy(int,int)" + GONE, "int upward(int,int,int)" + GONE, "int tell(int,int)" + GONE,
        "int grow(int,int)" + WRONG, "int missing(int)" + GONE, "int count(int)" + GONE};

    private FaceTest() {
    }

    public static void main(String[] args) throws IOException {
        String source = Files.readString(Path.of(args[0]));
        face();
        if (Files.exists(DOCUMENT)) {
            asPrinted(Files.readString(DOCUMENT), source);
        } else {
            System.out.println("the document is not at " + DOCUMENT + ": FACE alone tells what is due");
        }
        insides();
        bans(source);
        lengths(source);
        Check.end("FaceTest");
    }

    private static void face() {
        Class<?> c = WiredNets.class;
        Check.same("public final class", Modifier.PUBLIC | Modifier.FINAL, c.getModifiers());
        Set<String> met = new TreeSet<>();
        for (Method m : c.getDeclaredMethods()) {
            if (!Modifier.isPrivate(m.getModifiers())) {
                Check.same("modifiers of " + m.getName(), Modifier.PUBLIC, m.getModifiers());
                met.add(told(m));
            }
        }
        Set<String> due = new TreeSet<>(Arrays.asList(FACE));
        Check.hold("methods " + met + ", due are " + due, met.equals(due));
        Constructor<?>[] made = c.getDeclaredConstructors();
        Check.hold("one public constructor", made.length == 1 && made[0].getParameterCount() == 0
            && Modifier.isPublic(made[0].getModifiers()));
        List<String> fields = new ArrayList<>();
        for (Field f : c.getDeclaredFields()) {
            if (!Modifier.isPrivate(f.getModifiers())) {
                fields.add(Modifier.toString(f.getModifiers()) + " " + f.getType() + " " + f.getName());
            }
        }
        Check.hold("constants " + fields, fields.equals(List.of("public static final int NONE")));
        Check.same("NONE", -1, WiredNets.NONE);
    }

    private static String told(Method m) {
        StringBuilder out = new StringBuilder(m.getReturnType() + " " + m.getName() + "(");
        for (Class<?> type : m.getParameterTypes()) {
            out.append(out.charAt(out.length() - 1) == '(' ? "" : ",").append(type);
        }
        out.append(')');
        String before = " throws ";
        for (Class<?> thrown : m.getExceptionTypes()) {
            out.append(before).append(thrown.getSimpleName());
            before = ",";
        }
        return out.toString();
    }

    /** The document's face and the class's, word by word; their order is free. */
    private static void asPrinted(String document, String source) {
        String printed = document.substring(document.indexOf("```java\n") + 8);
        List<String> due = publics(printed.substring(0, printed.indexOf("```")));
        Check.same("public lines of the document", FACE.length + 3, due.size());
        Check.text("the public face", sorted(due), sorted(publics(bare(source))));
        List<String> promised = new ArrayList<>();
        Matcher promise = Pattern.compile("(?m)^## Promise \\d+: .*\\n\\n`([^`]*)`").matcher(document);
        while (promise.find()) {
            promised.add("public " + promise.group(1));
        }
        Check.text("what is promised", String.join("\n", due.subList(2, due.size())), String.join("\n", promised));
    }

    /** Each line that is public, up to its end or its body. */
    private static List<String> publics(String code) {
        List<String> out = new ArrayList<>();
        Matcher line = Pattern.compile("(?m)^ *(public [^;{]*?) *[;{]").matcher(code);
        while (line.find()) {
            out.add(line.group(1).replaceAll("\\s+", " "));
        }
        return out;
    }

    private static String sorted(List<String> lines) {
        List<String> copy = new ArrayList<>(lines);
        Collections.sort(copy);
        return String.join("\n", copy);
    }

    private static String bare(String source) {
        return source.replaceAll("(?s)/\\*.*?\\*/|//[^\n]*", "");
    }

    private static void insides() {
        Set<String> face = new HashSet<>();
        for (String method : FACE) {
            face.add(method.substring(method.indexOf(' ') + 1, method.indexOf('(')));
        }
        List<Class<?>> classes = new ArrayList<>(Arrays.asList(WiredNets.class.getDeclaredClasses()));
        for (Class<?> inside : classes) {
            Check.hold(inside + " is static", Modifier.isStatic(inside.getModifiers()));
            Check.hold(inside + " has none inside", inside.getDeclaredClasses().length == 0);
        }
        classes.add(WiredNets.class);
        Check.hold("at most twelve classes", classes.size() <= 12);
        for (Class<?> c : classes) {
            int fields = 0;
            for (Field f : c.getDeclaredFields()) {
                boolean constant = Modifier.isStatic(f.getModifiers());
                Check.hold(f + " is final", !constant || Modifier.isFinal(f.getModifiers()));
                fields += constant ? 0 : 1;
            }
            Check.hold(c + " has at most twenty fields", fields <= 20);
            for (Method m : c.getDeclaredMethods()) {
                Check.hold(m + " has at most seven parameters", m.getParameterCount() <= 7);
                Check.hold(m + " bears no name of the face",
                    !Modifier.isPrivate(m.getModifiers()) || !face.contains(m.getName()));
            }
        }
    }

    private static void bans(String source) {
        String code = bare(source);
        String kept = "(IllegalState|IllegalArgument|IndexOutOfBounds|Arithmetic|UnsupportedOperation|NoSuchElement|Runtime)";
        String caught = "(IllegalState|IllegalArgument|UnsupportedOperation|NoSuchElement)Exception";
        String[] never = {"(?m)^(?!\\s*(case|default)\\b).*->", "::", "\\bfinally\\b", "\\bsynchronized\\b", "\\bassert\\b",
            "\\btry \\(", "\\bstatic \\{", "Exact\\(", "System\\.(?!arraycopy\\()", "\\bpackage\\b", "\\bRandom\\b",
            "\\bThread\\b", "\\bgetMessage\\b", "Math\\.\\w*(random|sqrt|pow|floor\\(|ceil)", "\\[\\]\\[\\]\\[\\]",
            "import (?!java\\.util\\.(NoSuchElementException|ArrayList|List|Arrays|Iterator);)", "[^\\x00-\\x7f]",
            "\\b(protected|volatile|transient|native)\\b", "throw new (?!" + kept + "Exception\\((\"[^\"]*\")?\\);)",
            "throw (?!new )", "\\bcatch \\((?!" + caught + "( \\| " + caught + ")* \\w+\\))"};
        for (String pattern : never) {
            Matcher found = Pattern.compile(pattern).matcher(code);
            Check.hold("the file has none of " + pattern, !found.find());
        }
    }

    /** Methods stay short: some sixty lines. */
    private static void lengths(String source) {
        int start = 0;
        String[] lines = source.split("\n");
        for (int i = 0; i < lines.length; i++) {
            if (lines[i].matches(" {4,8}[a-z][^=;]*\\) ?(throws [A-Za-z, ]+)?\\{")) {
                start = i;
            }
            if (lines[i].matches(" {4,8}}")) {
                Check.hold("what ends in line " + (i + 1) + " is short", i - start <= 60 || start == 0
                    || lines[i].length() == 5);
            }
        }
    }
}
