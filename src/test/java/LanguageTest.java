import java.io.IOException;
import java.lang.reflect.Constructor;
import java.lang.reflect.Field;
import java.lang.reflect.Method;
import java.lang.reflect.Modifier;
import java.nio.charset.StandardCharsets;
import java.nio.file.Files;
import java.nio.file.Path;
import java.util.ArrayList;
import java.util.Arrays;
import java.util.List;
import java.util.Set;
import java.util.TreeSet;
import java.util.regex.Matcher;
import java.util.regex.Pattern;

/** The public face of the document, and those rules of LANGUAGE.md that can be read from the text of the program. */
public final class LanguageTest {
    private static final Check CHECK = new Check();
    private static final String[] CONSTANTS = {"NO_SUCH=-1", "BAD_VALUE=-2", "BAD_TEXT=-3", "TOO_MANY=-4",
        "NOT_POSSIBLE=-5", "NONE=-6", "QUORUM=0", "LATE_QUORUM=1", "LATE=2", "LIMIT=3", "CHAIN=4", "CASTING=5",
        "WAITING=0", "OPEN=1", "TIED=2", "CARRIED=3", "LOST=4", "ABSTAINED=0", "FOR=1", "AGAINST=2", "SILENT=3",
        "UNHEARD=4", "RECUSED=5"};
    private static final String[] METHODS = {"set(int,int)", "member(int,int)", "item(int,int)", "chair(int)",
        "come(int)", "go(int)", "later(int,int,int)", "proxy(int,int,int)", "tell(int,int,int)", "recuse(int,int,int)",
        "open(int)", "vote(int,int)", "close()", "cast(int)", "pass(int)", "ofMember(int,int)", "ofItem(int,int)",
        "at(int,int,int)", "count(int)", "wouldBe(int)", "decisive(int)", "needed(int,int)", "power(int)",
        "quorumAt(int)", "bestHolder(int,int)", "put(long)", "wipe()", "fault()", "carryOut()", "undo()", "save(int)",
        "restore(int)"};
    private static final String[] FORBIDDEN = {"throw", "throws", "try", "catch", "finally", "synchronized", "assert",
        "native", "volatile", "transient", "record", "yield", "var", "equals", "hashCode", "toString", "double",
        "float", "protected", "Object", "Exception", "Random", "Thread", "Exact"};
    private static final int LONGEST_METHOD = 60, MOST_FIELDS = 20, MOST_CLASSES = 12, MOST_PARAMETERS = 7;

    public static void main(String[] args) throws IOException, IllegalAccessException {
        face();
        for (Class<?> inner : ProxyVotes.class.getDeclaredClasses()) {
            inner(inner);
        }
        List<Class<?>> classes = new ArrayList<>(Arrays.asList(ProxyVotes.class.getDeclaredClasses()));
        CHECK.that("12: few classes", classes.size() + 1 <= MOST_CLASSES);
        classes.add(ProxyVotes.class);
        for (Class<?> one : classes) {
            members(one);
        }
        String source = Files.readString(Path.of("src/main/java/ProxyVotes.java"), StandardCharsets.US_ASCII);
        text(bare(source));
        CHECK.end();
    }

    private static void face() throws IllegalAccessException {
        Class<ProxyVotes> face = ProxyVotes.class;
        CHECK.due("1: public and final", Modifier.PUBLIC | Modifier.FINAL, face.getModifiers());
        CHECK.that("1: of no other class", face.getSuperclass() == Object.class && face.getInterfaces().length == 0);
        CHECK.due("1: constructors", 1, face.getDeclaredConstructors().length);
        Constructor<?> constructor = face.getDeclaredConstructors()[0];
        CHECK.that("1: it is public", Modifier.isPublic(constructor.getModifiers()));
        CHECK.due("1: its parameters", 0, constructor.getParameterCount());
        Set<String> constants = new TreeSet<>();
        for (Field field : face.getDeclaredFields()) {
            if (!Modifier.isPrivate(field.getModifiers())) {
                CHECK.due("1: " + field, Modifier.PUBLIC | Modifier.STATIC | Modifier.FINAL, field.getModifiers());
                CHECK.that("1: an int " + field, field.getType() == int.class);
                constants.add(field.getName() + "=" + field.getInt(null));
            }
        }
        same("1: the constants", new TreeSet<>(Arrays.asList(CONSTANTS)), constants);
        Set<String> methods = new TreeSet<>();
        for (Method method : face.getDeclaredMethods()) {
            if (!Modifier.isPrivate(method.getModifiers())) {
                CHECK.due("1: " + method, Modifier.PUBLIC, method.getModifiers());
                CHECK.that("1: an int " + method, method.getReturnType() == int.class);
                methods.add(signature(method));
            }
        }
        same("1: the methods", new TreeSet<>(Arrays.asList(METHODS)), methods);
    }

    private static String signature(Method method) {
        StringBuilder text = new StringBuilder(method.getName()).append('(');
        for (Class<?> type : method.getParameterTypes()) {
            text.append(text.charAt(text.length() - 1) == '(' ? "" : ",").append(type.getName());
        }
        return text.append(')').toString();
    }

    private static void same(String what, Set<String> want, Set<String> got) {
        if (!want.equals(got)) {
            System.out.println(what + " are " + got + ", due are " + want);
        }
        CHECK.that(what, want.equals(got));
    }

    private static void inner(Class<?> inner) {
        int modifiers = inner.getModifiers();
        CHECK.that("2: static " + inner, Modifier.isStatic(modifiers));
        CHECK.that("1: private " + inner, Modifier.isPrivate(modifiers));
        CHECK.due("2: no class in " + inner, 0, inner.getDeclaredClasses().length);
    }

    private static void members(Class<?> one) {
        Set<String> names = new TreeSet<>();
        for (String method : METHODS) {
            names.add(method.substring(0, method.indexOf('(')));
        }
        int fields = 0;
        for (Field field : one.getDeclaredFields()) {
            boolean isStatic = Modifier.isStatic(field.getModifiers());
            CHECK.that("5: final " + field, !isStatic || Modifier.isFinal(field.getModifiers()));
            fields += isStatic ? 0 : 1;
        }
        CHECK.that("11: few fields in " + one, fields <= MOST_FIELDS);
        for (Method method : one.getDeclaredMethods()) {
            boolean isPrivate = Modifier.isPrivate(method.getModifiers());
            CHECK.that("2: no lambda " + method, !method.isSynthetic());
            CHECK.that("1: a name of its own " + method, !isPrivate || !names.contains(method.getName()));
            CHECK.that("1: private " + method, isPrivate || one == ProxyVotes.class);
            CHECK.that("11: few parameters " + method, method.getParameterCount() <= MOST_PARAMETERS);
        }
    }

    /** The program without its comments, and with empty texts. */
    private static String bare(String source) {
        String noComments = source.replaceAll("(?s)/\\*.*?\\*/", "").replaceAll("//[^\n]*", "");
        return noComments.replaceAll("\"[^\"\n]*\"", "\"\"").replaceAll("'[^'\n]'", "'_'");
    }

    private static void text(String bare) {
        for (String word : FORBIDDEN) {
            CHECK.that("no " + word, !Pattern.compile("\\b" + word + "\\b").matcher(bare).find());
        }
        for (String sign : new String[] {"->", "::", "@", "\"", "package ", "static {", "while (true)", "for (;;)"}) {
            CHECK.that("no " + sign, !bare.contains(sign));
        }
        Matcher imports = Pattern.compile("import ([^;]*);").matcher(bare);
        while (imports.find()) {
            CHECK.that("4: " + imports.group(1), imports.group(1).equals("java.util.Arrays"));
        }
        Matcher calls = Pattern.compile("\\b(Arrays|System|Integer|Math|Long)\\.(\\w+)").matcher(bare);
        List<String> library = Arrays.asList("Arrays.fill", "System.arraycopy", "Integer.bitCount", "Math.min");
        while (calls.find()) {
            CHECK.that("4: " + calls.group(), library.contains(calls.group()));
        }
        int start = -1;
        String[] lines = bare.split("\n");
        for (int line = 0; line < lines.length; line++) {
            CHECK.that("lines are short: " + lines[line], lines[line].length() <= 120);
            if (lines[line].matches(" +(private|public)[^=;]*\\) \\{")) {
                start = line;
            }
            CHECK.that("11: methods are short: " + lines[line], start < 0 || !lines[line].matches(" {4,8}}")
                || line - start <= LONGEST_METHOD);
            if (lines[line].matches(" {4,8}}")) {
                start = -1;
            }
        }
    }
}
