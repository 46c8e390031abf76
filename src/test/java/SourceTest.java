import java.lang.reflect.Constructor;
import java.lang.reflect.Field;
import java.lang.reflect.Method;
import java.lang.reflect.Modifier;
import java.nio.charset.StandardCharsets;
import java.nio.file.Files;
import java.nio.file.Paths;
import java.util.Arrays;
import java.util.TreeSet;
import java.util.regex.Matcher;
import java.util.regex.Pattern;

/** Whether the source keeps to what can be seen of LANGUAGE.md, and the class has the document's face. */
public final class SourceTest {
    private static final String FACE = "feed(int,int,int,int,int)int end(int)int chain()int fault(int)int row(int)int "
            + "node(int,int)int under(int,int)int due(int,int)int wrote(int,int)int write(int,int)int tick()int "
            + "lose(int)int join(int)int undo()boolean redo()boolean read(int,int)int lazy(int,int)int "
            + "askers(int)int stale(int)int versions(int,int)int version(int,int,int)int will(int,int)int "
            + "when(int)int still()int drops(int)int worst(int,int)int safe()int answered()int soonest()int "
            + "weed(int)int fullest()int trip()int without(int)int latest(int)int traffic()int lag(int)int "
            + "peak(int)int dirtiest(int)int soonestOf(int)int idle()int law(int)int odds(int,int)int lies(int)int "
            + "seen(int,boolean)int untell(int)boolean later(int)int fits(int)int culprit(int,int)int "
            + "ask(int,int)int image(int)int back(int)int about(int)int";

    private SourceTest() {
    }

    public static void main(String[] args) throws Exception {
        checkFace();
        checkClasses();
        checkWords(args.length > 0 ? args[0] : "src/main/java/ReplicaChain.java");
        Check.finish("SourceTest");
    }

    private static void checkFace() {
        TreeSet<String> due = new TreeSet<>(Arrays.asList(FACE.split(" ")));
        TreeSet<String> got = new TreeSet<>();
        TreeSet<String> names = new TreeSet<>();
        for (Method m : ReplicaChain.class.getDeclaredMethods()) {
            if (Modifier.isPrivate(m.getModifiers())) {
                continue;
            }
            names.add(m.getName());
            StringBuilder b = new StringBuilder(m.getName()).append('(');
            for (Class<?> type : m.getParameterTypes()) {
                b.append(b.charAt(b.length() - 1) == '(' ? "" : ",").append(type);
            }
            got.add(b.append(')').append(m.getReturnType()).toString());
        }
        Check.yes("the face is " + due + ", not " + got, due.equals(got));
        for (Method m : ReplicaChain.class.getDeclaredMethods()) {
            boolean isPrivate = Modifier.isPrivate(m.getModifiers());
            Check.no("a private " + m.getName() + " bears a public name", isPrivate && names.contains(m.getName()));
        }
        for (Class<?> c : ReplicaChain.class.getDeclaredClasses()) {
            for (Method m : c.getDeclaredMethods()) {
                Check.no(c + "." + m.getName() + " bears a public name", names.contains(m.getName()));
            }
        }
        for (Field f : ReplicaChain.class.getDeclaredFields()) {
            Check.yes(f + " is private", f.getName().equals("NONE") || Modifier.isPrivate(f.getModifiers()));
        }
        Constructor<?>[] made = ReplicaChain.class.getDeclaredConstructors();
        Check.same("constructors", made.length, 1);
        Check.yes("the constructor is public", Modifier.isPublic(made[0].getModifiers()));
        Check.yes("the class is final", Modifier.isFinal(ReplicaChain.class.getModifiers()));
    }

    private static void checkClasses() {
        Class<?>[] inside = ReplicaChain.class.getDeclaredClasses();
        Check.yes("at most twelve classes", inside.length < 12);
        for (Class<?> c : inside) {
            Check.yes(c + " is static", Modifier.isStatic(c.getModifiers()));
            checkMembers(c);
        }
        checkMembers(ReplicaChain.class);
    }

    private static void checkMembers(Class<?> c) {
        int fields = 0;
        for (Field f : c.getDeclaredFields()) {
            if (Modifier.isStatic(f.getModifiers())) {
                Check.yes(f + " is final", Modifier.isFinal(f.getModifiers()));
            } else {
                fields++;
            }
        }
        Check.yes(c + " has some twenty fields at most", fields <= 20);
        for (Method m : c.getDeclaredMethods()) {
            Check.yes(m + " has seven parameters at most", m.getParameterCount() <= 7);
        }
    }

    private static void checkWords(String file) throws Exception {
        String source = new String(Files.readAllBytes(Paths.get(file)), StandardCharsets.UTF_8);
        String code = source.replaceAll("(?s)/\\*.*?\\*/", "").replaceAll("//[^\n]*", "");
        String bare = code.replaceAll("\"[^\"\n]*\"", "\"\"");
        String[] forbidden = {"\\bthrow\\b", "\\bthrows\\b", "\\btry\\b", "\\bcatch\\b", "\\bsynchronized\\b",
            "\\bassert\\b", "->", "::", "\\bpackage\\b", "\\bimport\\b", "\\bprotected\\b", "Exact\\b", "\\bObject\\b",
            "\\bequals\\b", "\\bhashCode\\b", "\\btoString\\b", "\"\"\\s*\\+", "\\+\\s*\"\"", "static\\s*\\{"};
        for (String word : forbidden) {
            Matcher m = Pattern.compile(word).matcher(bare);
            Check.no("the source has " + word, m.find());
        }
        Check.yes("signs 1 to 127 alone", source.chars().allMatch(c -> c > 0 && c < 128));
        checkMethods(code);
    }

    private static void checkMethods(String code) {
        int start = -1;
        String[] lines = code.split("\n");
        for (int i = 0; i < lines.length; i++) {
            if (lines[i].matches("( {4}| {8})[a-zA-Z].*\\) \\{") && !lines[i].matches(".*\\b(class|for|if|while|switch)\\b.*")) {
                start = i;
            }
            if (start >= 0 && lines[i].equals(lines[start].replaceAll("\\S.*", "") + "}")) {
                Check.yes("sixty lines at most: " + lines[start], i - start < 60);
                checkRecursion(lines[start], String.join("\n", Arrays.copyOfRange(lines, start + 1, i)));
                start = -1;
            }
        }
    }

    /** By rule 8 a method that calls itself is private and static; others call one another. */
    private static void checkRecursion(String head, String body) {
        Matcher name = Pattern.compile("(\\w+)\\(").matcher(head);
        boolean callsItself = name.find() && Pattern.compile("(?<![\\w.])" + name.group(1) + "\\(").matcher(body).find();
        Check.yes("recursion: " + head, !callsItself || head.contains("private static "));
    }
}
