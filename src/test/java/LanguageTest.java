import java.lang.reflect.Constructor;
import java.lang.reflect.Field;
import java.lang.reflect.Method;
import java.lang.reflect.Modifier;
import java.nio.file.Files;
import java.nio.file.Path;
import java.util.Arrays;
import java.util.Set;
import java.util.TreeSet;
import java.util.regex.Matcher;
import java.util.regex.Pattern;

/** The public face, and those rules of LANGUAGE.md that a look at the source or the class can tell. */
public final class LanguageTest {
    private static final Checks CHECKS = new Checks();
    private static final String[] FACE = {
        "int type(int,int)", "int wipe(int)", "int undo(int)", "int fault(int)", "int part(int,int)",
        "int goers(int)", "int lamp(int,int)", "int read(int)", "long far(int,int)", "long safe(int,int)",
        "long rule(int,int,int)", "long point(int)", "int judged()", "int state(int,int)", "int left(int,int)",
        "int home()", "int unlit(int,int,int)", "long help(int,int,int)", "int least(int,int)",
        "int side(int,int)", "int gone()", "int first(int)", "long mean(int)", "int can(int,int,int,int)",
        "int forget()", "int turned()", "int sheet(int,int,int)", "int lose(int)", "int lay(int,int,int,int)",
        "int get(int,int,int)", "int copy(int,int,int,int,int)", "int write(int)", "int count(int)",
        "long digest()"};

    public static void main(String[] args) throws Exception {
        face();
        members();
        words(Files.readString(Path.of("src/main/java/TurnThird.java")));
        CHECKS.due("NONE", TurnThird.NONE, -1);
        CHECKS.due("BAD", TurnThird.BAD, -2);
        CHECKS.due("NOT", TurnThird.NOT, -3);
        CHECKS.due("FULL", TurnThird.FULL, -4);
        CHECKS.end();
    }

    private static void face() {
        Set<String> found = new TreeSet<>();
        for (Method method : TurnThird.class.getDeclaredMethods()) {
            if (!Modifier.isPrivate(method.getModifiers())) {
                CHECKS.holds("public " + method, Modifier.isPublic(method.getModifiers()));
                StringBuilder told = new StringBuilder(method.getReturnType() + " " + method.getName() + "(");
                for (Class<?> type : method.getParameterTypes()) {
                    told.append(told.charAt(told.length() - 1) == '(' ? "" : ",").append(type);
                }
                found.add(told.append(")").toString());
            }
        }
        CHECKS.holds("the face is the document's: " + found, found.equals(new TreeSet<>(Arrays.asList(FACE))));
        CHECKS.holds("public and final", TurnThird.class.getModifiers() == (Modifier.PUBLIC | Modifier.FINAL));
        Constructor<?>[] makers = TurnThird.class.getDeclaredConstructors();
        CHECKS.due("constructors", makers.length, 1);
        CHECKS.holds("public constructor", makers.length == 1 && Modifier.isPublic(makers[0].getModifiers()));
    }

    private static void members() {
        Set<String> faceNames = new TreeSet<>();
        for (String line : FACE) {
            faceNames.add(line.substring(line.indexOf(' ') + 1, line.indexOf('(')));
        }
        Set<String> constants = new TreeSet<>(Arrays.asList("NONE", "BAD", "NOT", "FULL"));
        for (Field field : TurnThird.class.getDeclaredFields()) {
            CHECKS.holds("private but for the constants: " + field.getName(),
                    Modifier.isPrivate(field.getModifiers()) != constants.contains(field.getName()));
        }
        Class<?>[] inside = TurnThird.class.getDeclaredClasses();
        CHECKS.holds("some twelve classes", inside.length <= 12);
        for (Class<?> one : inside) {
            CHECKS.holds("static " + one, Modifier.isStatic(one.getModifiers()));
            for (Method method : one.getDeclaredMethods()) {
                CHECKS.holds("a name of the face: " + method, !faceNames.contains(method.getName()));
                CHECKS.holds("seven parameters: " + method, method.getParameterCount() <= 7);
            }
        }
        for (Method method : TurnThird.class.getDeclaredMethods()) {
            CHECKS.holds("a name of the face: " + method, !Modifier.isPrivate(method.getModifiers())
                    || !faceNames.contains(method.getName()));
        }
    }

    private static void words(String source) {
        String code = source.replaceAll("(?s)/\\*.*?\\*/", "").replaceAll("//[^\n]*", "");
        String[] ruledOut = {"\\bthrow\\b", "\\btry\\b", "\\bcatch\\b", "\\bsynchronized\\b", "\\bassert\\b",
            "->", "::", "\\bimport\\b", "\\bpackage\\b", "static\\s*\\{", "Exact\\b", "\\bprotected\\b",
            "\\bObject\\b", "\\bthrows\\b", "[^\\x00-\\x7f]", "\\bdouble\\b", "\\bfloat\\b"};
        for (String word : ruledOut) {
            Matcher matcher = Pattern.compile(word).matcher(code);
            CHECKS.holds("ruled out: " + word, !matcher.find());
        }
        library(code);
        lengths(code);
        room(code);
    }

    /** Rule 4: of the library only what stands there, so of Integer, Long and Math functions, not fields. */
    private static void library(String code) {
        Set<String> own = new TreeSet<>(Set.of("TurnThird"));
        for (Class<?> one : TurnThird.class.getDeclaredClasses()) {
            own.add(one.getSimpleName());
        }
        Set<String> functions = Set.of("Math.min", "Math.max", "System.arraycopy");
        Matcher name = Pattern.compile("\\b([A-Z]\\w*[a-z]\\w*)(\\.\\w+)?(\\()?").matcher(code);
        while (name.find()) {
            boolean listed = functions.contains(name.group(1) + name.group(2)) && name.group(3) != null;
            CHECKS.holds("of the library: " + name.group(), own.contains(name.group(1)) || listed);
        }
    }

    /** Rule 11: some sixty lines a method, some twenty fields beside the constants of a class. */
    private static void lengths(String code) {
        String[] lines = code.split("\n");
        for (String indent : new String[] {"    ", "        "}) {
            int begun = -1;
            for (int i = 0; i < lines.length; i++) {
                if (lines[i].matches(indent + "\\S.*\\) \\{")) {
                    begun = i;
                } else if (begun >= 0 && lines[i].equals(indent + "}")) {
                    CHECKS.holds("sixty lines: " + lines[begun].trim(), i - begun < 60);
                    begun = -1;
                }
            }
            CHECKS.due("methods that do not end", begun, -1);
        }
        fewFields(TurnThird.class);
        for (Class<?> one : TurnThird.class.getDeclaredClasses()) {
            fewFields(one);
        }
    }

    private static void fewFields(Class<?> one) {
        int fields = 0;
        for (Field field : one.getDeclaredFields()) {
            boolean isStatic = Modifier.isStatic(field.getModifiers());
            CHECKS.holds("a static field is final: " + field, !isStatic || Modifier.isFinal(field.getModifiers()));
            fields += isStatic ? 0 : 1;
        }
        CHECKS.holds("some twenty fields: " + one, fields <= 20);
    }

    /** All calls of a run live in one room, so rows are made with the object and used again. */
    private static void room(String code) {
        for (String line : code.split("\n")) {
            boolean makes = Pattern.compile("\\bnew\\b").matcher(line).find();
            boolean withTheObject = line.contains("private final") || line.contains("bytes = new int[");
            CHECKS.holds("made behind the constructor: " + line.trim(), !makes || withTheObject);
        }
    }
}
