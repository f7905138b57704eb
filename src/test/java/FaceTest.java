import java.io.IOException;
import java.lang.reflect.Method;
import java.lang.reflect.Modifier;
import java.nio.file.Files;
import java.nio.file.Path;
import java.util.ArrayList;
import java.util.List;
import java.util.TreeSet;
import java.util.regex.Matcher;
import java.util.regex.Pattern;

/** The public face is the document's and no more, and the source keeps to what LANGUAGE.md leaves. */
public final class FaceTest {
    private static final String[] METHODS = {
        "int feed(int,int,int,int,int)", "boolean end(int)", "int fault(int)", "int text(int)", "int place(int,int)", "boolean worth(int)",
        "boolean set(int,boolean)", "boolean tugs(int)", "boolean throwTo(int,int,int)", "int thrown(int,int)", "boolean answer()",
        "int answerTo(int,int)", "int mean(int)", "int tongue(int,int)", "int sense(boolean,boolean,int)", "int settled(int)",
        "int worst(int)", "int code(int,int,int)", "boolean shelve(boolean,int)", "int fit(int,int,int)", "int pair(int)",
        "int see(int,int)", "int meant(int)", "boolean seed(long)", "int day()", "int was(int,int)", "int undo()", "boolean wet(int)",
        "int lone(int,int)", "int alone(int,int,int)", "long knots(int,int,int)", "long bestKnots(int,int)", "long weather(int,int,int)",
        "int skill(int,int)", "int cases(int)", "int mixed(int)", "long crossed(int,int,int)", "int rests(int,int,int)",
        "int leavers(int,int)", "int read(int,int,int)", "int spread(int,int)", "int hoard(int,int)", "int said(int,int)", "int run()",
        "int copy()", "int image()", "int back()", "int count(int)"};

    private static final String THROWN = "IllegalStateException|IllegalArgumentException|IndexOutOfBoundsException|ArithmeticException"
        + "|UnsupportedOperationException|NoSuchElementException|RuntimeException";

    // LANGUAGE.md says "some twelve", "some twenty" and "some sixty", so a little more is not a fault.
    private static final int CLASSES_MOST = 14;
    private static final int FIELDS_MOST = 24;
    private static final int LINES_MOST = 70;

    private static int wrong = 0;

    public static void main(String[] args) throws IOException {
        face();
        nested();
        source(Files.readString(Path.of("src/main/java/TugLake.java")));
        System.out.println(wrong == 0 ? "the face is as due" : wrong + " faults of the face");
        if (wrong != 0) {
            System.exit(1);
        }
    }

    private static void must(String what, boolean holds) {
        if (!holds) {
            wrong++;
            System.out.println(what);
        }
    }

    private static String told(Method method) {
        List<String> types = new ArrayList<>();
        for (Class<?> type : method.getParameterTypes()) {
            types.add(type.getSimpleName());
        }
        return method.getReturnType().getSimpleName() + " " + method.getName() + "(" + String.join(",", types) + ")";
    }

    private static void face() {
        TreeSet<String> there = new TreeSet<>();
        TreeSet<String> names = new TreeSet<>();
        for (Method method : TugLake.class.getDeclaredMethods()) {
            if (!Modifier.isPrivate(method.getModifiers())) {
                there.add(told(method));
                names.add(method.getName());
                must("not public: " + method, Modifier.isPublic(method.getModifiers()) && !Modifier.isStatic(method.getModifiers()));
            }
        }
        must("methods " + there, there.equals(new TreeSet<>(List.of(METHODS))));
        for (Method method : TugLake.class.getDeclaredMethods()) {
            must("a private method with a public name: " + method,
                !Modifier.isPrivate(method.getModifiers()) || !names.contains(method.getName()));
        }
        for (Class<?> nested : TugLake.class.getDeclaredClasses()) {
            for (Method method : nested.getDeclaredMethods()) {
                must("a private method with a public name: " + method,
                    !Modifier.isPrivate(method.getModifiers()) || !names.contains(method.getName()));
            }
        }
        for (java.lang.reflect.Field field : TugLake.class.getDeclaredFields()) {
            boolean constant = field.getName().equals("NONE") || field.getName().equals("HIDDEN");
            must("field " + field, constant ? Modifier.isPublic(field.getModifiers()) : Modifier.isPrivate(field.getModifiers()));
        }
        must("final", Modifier.isFinal(TugLake.class.getModifiers()) && Modifier.isPublic(TugLake.class.getModifiers()));
        must("one constructor", TugLake.class.getDeclaredConstructors().length == 1 && TugLake.class.getConstructors().length == 1);
    }

    private static void nested() {
        Class<?>[] all = TugLake.class.getDeclaredClasses();
        must("some twelve classes at most", all.length + 1 <= CLASSES_MOST);
        for (Class<?> inside : all) {
            must("static: " + inside, Modifier.isStatic(inside.getModifiers()));
        }
        List<Class<?>> classes = new ArrayList<>(List.of(all));
        classes.add(TugLake.class);
        for (Class<?> one : classes) {
            int fields = 0;
            for (java.lang.reflect.Field field : one.getDeclaredFields()) {
                boolean still = Modifier.isStatic(field.getModifiers());
                must("a static field that is not final: " + field, !still || Modifier.isFinal(field.getModifiers()));
                fields += still ? 0 : 1;
            }
            must("some twenty fields at most: " + one, fields <= FIELDS_MOST);
            for (Method method : one.getDeclaredMethods()) {
                must("seven parameters at most: " + method, method.getParameterCount() <= 7);
            }
        }
    }

    /** Only what LANGUAGE.md rules out by name; what it leaves free is left free here, too. */
    private static void source(String text) {
        String code = text.replaceAll("(?s)/\\*.*?\\*/", "").replaceAll("//[^\n]*", "");
        String[] banned = {"::", "\\bfinally\\b", "\\bsynchronized\\b", "\\bassert\\b", "Exact\\b", "System\\.(?!arraycopy)", "\\bRandom\\b",
            "\\bThread\\b", "\\bpackage\\b", "\\bvar\\b", "hashCode", "getMessage", "\\[\\]\\[\\]\\[\\]", "\\bprotected\\b",
            "static \\{", "extends \\w*Exception", "\\b(ArrayIndexOutOfBounds|NullPointer|ClassCast|NegativeArraySize|ArrayStore)Exception"};
        for (String word : banned) {
            must("not in the language: " + word, !Pattern.compile(word).matcher(code).find());
        }
        String noCases = code.replaceAll("\\b(case [^;{}]*?|default) ->", "");
        must("a lambda", !noCases.contains("->"));
        String ours = "import java\\.util\\.(Arrays|ArrayList|List|Iterator|NoSuchElementException);";
        must("imports", !code.replaceAll(ours, "").contains("import "));
        Matcher thrown = Pattern.compile("\\bthrow\\b(?! new (" + THROWN + ")\\()").matcher(code);
        must("a throw of another kind", !thrown.find());
        must("characters 1 to 127", code.chars().allMatch(sign -> sign < 128));
        lengths(code.split("\n"));
    }

    private static void lengths(String[] lines) {
        int start = -1;
        for (int i = 0; i < lines.length; i++) {
            boolean opens = lines[i].matches("( {4}| {8})[a-zA-Z].*\\) (throws \\w+ )?\\{");
            if (opens) {
                start = i;
            } else if (start >= 0 && lines[i].matches("( {4}| {8})\\}")) {
                must("a long method at line " + (start + 1), i - start <= LINES_MOST);
                start = -1;
            }
        }
    }
}
