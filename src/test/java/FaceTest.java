import java.io.IOException;
import java.lang.reflect.Field;
import java.lang.reflect.Method;
import java.lang.reflect.Modifier;
import java.nio.file.Files;
import java.nio.file.Path;
import java.util.Arrays;
import java.util.HashSet;
import java.util.Set;
import java.util.TreeSet;
import java.util.regex.Pattern;

/** The face is the document's, no more and no less, and the file keeps to what of LANGUAGE.md can be told by its looks. */
public final class FaceTest {
    private static final String NONE_AT_ALL = "";
    private static final String[] FACE = {
        "int node(int,int) I S", "int edge(int,int,int) I S", "int set(int,int) I S", "int dropEdge(int) I",
        "int dropNode(int) I", "boolean key(int) I S", "void shape(int,int,int) I S", "int move(int,int) I S",
        "int shift() ", "boolean toggle(int) I", "int machine(int) I", "int cut() ", "int copies(int) I",
        "int begin() S", "void write(int,int,int) I", "int link(int,int,int,int) I S", "void unlink(int,int) I",
        "int read(int,int) I", "int sees(int,int) I", "int commit(int,boolean) I", "int time() ",
        "int valueAt(int,int) I A", "int sizeAt(int) A", "int step(int,int) I A S", "int pattern() S",
        "int answer(int,int) I", "int answerAnew(int,int) I", "int pairs(int) I", "boolean isWhole(int,int) I",
        "int rule(int,int,int) I S", "int dropRule(int) I", "int inferred() ", "int reasons(int,int,int) I",
        "int walk(int,int) I A", "int crossings(int,int) I A", "int round(int) A", "int mark(int) I",
        "int least(int) I"};

    public static void main(String[] args) throws IOException {
        methods();
        constants();
        classesInside();
        words();
        Check.end();
    }

    private static void methods() {
        Set<String> due = new TreeSet<>(Arrays.asList(FACE));
        Set<String> names = new HashSet<>();
        Set<String> privates = new HashSet<>();
        for (Method m : WeftStore.class.getDeclaredMethods()) {
            if (Modifier.isPrivate(m.getModifiers())) {
                privates.add(m.getName());
                continue;
            }
            names.add(m.getName());
            Check.is(m + " is public", Modifier.isPublic(m.getModifiers()) && !Modifier.isStatic(m.getModifiers()), true);
            Check.is(told(m) + " is of the document", due.remove(told(m)), true);
        }
        Check.is("all methods are there, but for " + due, due.isEmpty(), true);
        privates.retainAll(names);
        Check.is("no private method has a public one's name, but " + privates, privates.isEmpty(), true);
        Check.eq("constructors", WeftStore.class.getDeclaredConstructors().length, 1);
        int modifiers = WeftStore.class.getModifiers();
        Check.is("public final", Modifier.isPublic(modifiers) && Modifier.isFinal(modifiers), true);
    }

    private static String told(Method m) {
        StringBuilder text = new StringBuilder(m.getReturnType().getName()).append(' ').append(m.getName()).append('(');
        for (Class<?> p : m.getParameterTypes()) {
            text.append(text.charAt(text.length() - 1) == '(' ? "" : ",").append(p.getName());
        }
        text.append(") ");
        String thrown = NONE_AT_ALL;
        for (Class<?> e : m.getExceptionTypes()) {
            String letter = e == IndexOutOfBoundsException.class ? "I" : e == IllegalArgumentException.class ? "A" : "S";
            thrown += thrown.isEmpty() ? letter : " " + letter;
        }
        return text.append(thrown).toString();
    }

    private static void constants() {
        int[] due = {WeftStore.NONE, WeftStore.EDGE, WeftStore.BACK, WeftStore.NODE, WeftStore.JOIN, WeftStore.EITHER,
            WeftStore.MANY};
        for (int i = 0; i < due.length; i++) {
            Check.eq("constant", due[i], i - 1);
        }
        int seen = 0;
        for (Field f : WeftStore.class.getDeclaredFields()) {
            if (!Modifier.isPrivate(f.getModifiers())) {
                seen++;
                Check.is(f + " is public", Modifier.isPublic(f.getModifiers()), true);
            }
            if (Modifier.isStatic(f.getModifiers())) {
                Check.is(f + " is final", Modifier.isFinal(f.getModifiers()), true);
            }
        }
        Check.eq("constants of the face", seen, due.length);
    }

    private static void classesInside() {
        Class<?>[] inside = WeftStore.class.getDeclaredClasses();
        Check.is("at most twelve classes", inside.length < 12, true);
        for (Class<?> c : inside) {
            Check.is(c + " is static", Modifier.isStatic(c.getModifiers()), true);
            Check.is(c + " is not public", Modifier.isPublic(c.getModifiers()) || Modifier.isProtected(c.getModifiers()), false);
            Check.is(c + " has at most twenty fields", c.getDeclaredFields().length <= 20, true);
            for (Method m : c.getDeclaredMethods()) {
                Check.is(m + " has at most seven parameters", m.getParameterCount() <= 7, true);
            }
        }
    }

    private static void words() throws IOException {
        String text = Files.readString(Path.of("src/main/java/WeftStore.java"));
        String[] none = {"\\bimport\\b", "\\bpackage\\b", "\\btry\\b", "\\bcatch\\b", "\\bfinally\\b",
            "\\bsynchronized\\b", "\\bassert\\b", "->", "::", "static\\s*\\{", "Exact\\b", "\\bhashCode\\b",
            "\\bSystem\\.(?!arraycopy)", "\\bObject\\b", "\\bNaN\\b", "while \\(true\\)", "for \\(;;\\)"};
        for (String word : none) {
            Check.is("the file has " + word, Pattern.compile(word).matcher(text).find(), false);
        }
        for (int i = 0; i < text.length(); i++) {
            if (text.charAt(i) > 126) {
                Check.tell("a sign beyond 126 at " + i);
            }
        }
    }
}
