import java.io.IOException;
import java.lang.reflect.Constructor;
import java.lang.reflect.Field;
import java.lang.reflect.Method;
import java.lang.reflect.Modifier;
import java.nio.file.Files;
import java.nio.file.Path;
import java.util.Set;
import java.util.TreeSet;
import java.util.regex.Matcher;
import java.util.regex.Pattern;

/** The public face, and those rules of LANGUAGE.md that can be seen from the class and its text. */
public final class FaceAndRulesTests {
    private static final Check CHECK = new Check("FaceAndRulesTests");
    private static final Path SOURCE = Path.of("src/main/java/TextRopes.java");
    private static final int LONGEST_METHOD = 60;
    private static final int MOST_CLASSES = 12;
    private static final int MOST_FIELDS = 20;
    private static final int MOST_PARAMETERS = 7;

    private static final String[] METHODS = {
        "int setLeafSize(int)", "int setBalancing(int)", "int type(int)", "int clearBuffer()", "int insert(int)",
        "int delete(int,int)", "int cut(int,int)", "int copy(int,int)", "int paste(int,int)", "int move(int,int,int)",
        "int replaceAll()", "int build()", "int pack()", "int length()", "int depth()", "int leaves()",
        "int isBalanced()", "int builds()", "int character(int)", "int leaf(int,int)", "int way(int)",
        "int find(int)", "int lines()", "int lineStart(int)", "int lineOf(int)", "int setMark(int,int)",
        "int mark(int)", "int ring()", "int ofRing(int,int)", "int ringCharacter(int,int)", "int keep(int)",
        "int goBack(int)", "int difference(int)", "int undo()", "long digest()",
    };

    private static final String[] FORBIDDEN = {
        "\\bthrow\\b", "\\btry\\b", "\\bcatch\\b", "\\bsynchronized\\b", "\\bassert\\b", "->", "::", "\\bvar\\b",
        "\\bequals\\s*\\(", "\\bhashCode\\s*\\(", "\\btoString\\s*\\(", "Exact\\s*\\(", "\\bimport (?!java\\.util\\.Arrays;)",
        "\\bstatic\\s*\\{", "\\bpackage\\b", "\\bprotected\\b", "\\bSystem\\.(?!arraycopy)", "\"",
    };

    public static void main(String[] args) throws IOException {
        publicFace();
        nestedClasses();
        String source = withoutComments(Files.readString(SOURCE));
        forbiddenWords(source);
        methodLengths(Files.readString(SOURCE));
        CHECK.end();
    }

    private static String told(Method method) {
        StringBuilder text = new StringBuilder(method.getReturnType() + " " + method.getName() + "(");
        for (Class<?> type : method.getParameterTypes()) {
            text.append(text.charAt(text.length() - 1) == '(' ? "" : ",").append(type);
        }
        return text.append(')').toString();
    }

    private static void publicFace() {
        CHECK.promise("the public face");
        Class<?> face = TextRopes.class;
        CHECK.holds("public and final", Modifier.isPublic(face.getModifiers()) && Modifier.isFinal(face.getModifiers()));
        Set<String> methods = new TreeSet<>();
        for (Method method : face.getDeclaredMethods()) {
            if (Modifier.isPrivate(method.getModifiers())) {
                CHECK.holds(method.getName() + " is no name of a public method", !hasPublicName(method));
            } else {
                CHECK.holds("public: " + method, Modifier.isPublic(method.getModifiers()));
                methods.add(told(method));
            }
        }
        CHECK.due("methods", methods.toString(), new TreeSet<>(Set.of(METHODS)).toString());
        Set<String> constants = new TreeSet<>();
        for (Field field : face.getDeclaredFields()) {
            if (!Modifier.isPrivate(field.getModifiers())) {
                constants.add(Modifier.toString(field.getModifiers()) + " " + field.getType() + " " + field.getName());
            }
        }
        CHECK.due("constants", constants.toString(), "[public static final int BAD_VALUE, public static final int LIMIT, "
                + "public static final int NONE, public static final int NOT_POSSIBLE, public static final int NO_SUCH]");
        Constructor<?>[] constructors = face.getDeclaredConstructors();
        CHECK.due("constructors", constructors.length, 1);
        CHECK.holds("a public constructor", Modifier.isPublic(constructors[0].getModifiers()));
        CHECK.due("parameters of the constructor", constructors[0].getParameterCount(), 0);
        CHECK.due("NO_SUCH", TextRopes.NO_SUCH, -1);
        CHECK.due("BAD_VALUE", TextRopes.BAD_VALUE, -2);
        CHECK.due("NOT_POSSIBLE", TextRopes.NOT_POSSIBLE, -3);
        CHECK.due("LIMIT", TextRopes.LIMIT, -4);
        CHECK.due("NONE", TextRopes.NONE, -5);
    }

    private static boolean hasPublicName(Method method) {
        for (String known : METHODS) {
            if (known.contains(" " + method.getName() + "(")) {
                return true;
            }
        }
        return false;
    }

    private static void nestedClasses() {
        CHECK.promise("the rules for classes");
        Class<?>[] nested = TextRopes.class.getDeclaredClasses();
        CHECK.holds("few classes", nested.length + 1 <= MOST_CLASSES);
        checkMembers(TextRopes.class);
        for (Class<?> type : nested) {
            CHECK.holds(type + " is static", Modifier.isStatic(type.getModifiers()));
            CHECK.holds(type + " is not public", !Modifier.isPublic(type.getModifiers()));
            for (Method method : type.getDeclaredMethods()) {
                CHECK.holds(method + " has a name of its own", !hasPublicName(method));
            }
            checkMembers(type);
        }
    }

    private static void checkMembers(Class<?> type) {
        int fields = 0;
        for (Field field : type.getDeclaredFields()) {
            if (Modifier.isStatic(field.getModifiers())) {
                CHECK.holds(field + " is final", Modifier.isFinal(field.getModifiers()));
            } else {
                fields++;
            }
        }
        CHECK.holds(type + " has few fields", fields <= MOST_FIELDS);
        for (Method method : type.getDeclaredMethods()) {
            CHECK.holds(method + " has few parameters", method.getParameterCount() <= MOST_PARAMETERS);
        }
    }

    private static String withoutComments(String source) {
        return source.replaceAll("(?s)/\\*.*?\\*/", " ").replaceAll("//[^\n]*", " ");
    }

    private static void forbiddenWords(String source) {
        CHECK.promise("the rules for words");
        for (String forbidden : FORBIDDEN) {
            Matcher matcher = Pattern.compile(forbidden).matcher(source);
            CHECK.holds("the class without " + forbidden, !matcher.find());
        }
        CHECK.holds("characters 1 to 127 alone", source.chars().allMatch(c -> c >= 1 && c <= 127));
    }

    /** Counts from a line that opens a method to the line that closes it with the same indentation. */
    private static void methodLengths(String source) {
        CHECK.promise("the rule for the length of methods");
        String[] lines = source.split("\n");
        Pattern opening = Pattern.compile("^( {4}| {8})[A-Za-z].*\\) \\{$");
        int methods = 0;
        for (int i = 0; i < lines.length; i++) {
            Matcher matcher = opening.matcher(lines[i]);
            if (!matcher.find() || lines[i].trim().matches("(if|for|while|switch) .*")) {
                continue;
            }
            int end = i;
            while (end < lines.length && !lines[end].equals(matcher.group(1) + "}")) {
                end++;
            }
            methods++;
            CHECK.holds("a short method: " + lines[i].trim(), end - i + 1 <= LONGEST_METHOD);
        }
        CHECK.holds("that methods were found, but " + methods, methods > METHODS.length);
    }
}
