import java.lang.reflect.Constructor;
import java.lang.reflect.Field;
import java.lang.reflect.Member;
import java.lang.reflect.Method;
import java.lang.reflect.Modifier;
import java.nio.file.Files;
import java.nio.file.Path;
import java.util.HashSet;
import java.util.Set;
import java.util.TreeSet;
import java.util.regex.Matcher;
import java.util.regex.Pattern;

/** What can be seen of LANGUAGE.md's rules and of the document's face from the source and the class. */
public final class LanguageTest {
    private static final Path SOURCE = Path.of("src/main/java/FrostDebts.java");
    private static final Path DOCUMENT = Path.of("../shared/DOC.md");
    private static int wrong = 0;

    private static void check(boolean isWell, String what) {
        if (isWell) return;
        wrong++;
        System.out.println(what);
    }

    private static void checkWords(String code) {
        String[] forbidden = {"\\b(throw|throws|try|catch|synchronized|assert|import|package|double|float|volatile|native)\\b",
            "->", "::", "\\bpublic\\s+(static\\s+)?(class|record|enum|interface)\\b", "\\bprotected\\b", "Exact\\b", "\\bwhile\\b",
            "\\b(System|Object|Thread|Runtime|Random|String)\\b", "\\bstatic\\s*\\{"};
        for (String word : forbidden) {
            Matcher found = Pattern.compile(word).matcher(code);
            if (found.find()) check(false, "the source has " + found.group());
        }
    }

    /** Divisors, indexes, loops, what is made by calls, and how deep these go. */
    private static void checkParsed(ParsedSource parsed) {
        for (String fault : parsed.faults) check(false, fault);
        check(Set.of("Math.max", "Math.min", "Long.bitCount").containsAll(parsed.libraryCalls), "the library: " + parsed.libraryCalls);
        check(!parsed.publicMethods.isEmpty(), "no public methods are parsed");
        for (String method : parsed.publicMethods) {
            int depth = parsed.depthOf(method, 0);
            check(depth <= ParsedSource.DEEP, "calls from " + method + " on go " + depth + " deep, or deeper");
        }
    }

    private static void checkLengths(String code) {
        int from = 0;
        String[] lines = code.split("\n");
        for (int i = 0; i < lines.length; i++) {
            if (lines[i].matches("\\s+.*\\) \\{$") && !lines[i].matches("\\s*(for|if|switch|\\}|\\|\\|).*")) from = i;
            if (lines[i].matches("( {4}| {8})\\}")) check(i - from <= 60, "a long method ends at line " + (i + 1));
        }
    }

    private static Set<String> faceOfDocument() throws java.io.IOException {
        String text = Files.readString(DOCUMENT);
        Matcher block = Pattern.compile("public final class FrostDebts \\{(.*?)\\n\\}", Pattern.DOTALL).matcher(text);
        check(block.find(), "the document has no face");
        Set<String> face = new TreeSet<>();
        Matcher method = Pattern.compile("public (int|long) (\\w+)\\(([^)]*)\\);").matcher(block.group(1));
        while (method.find()) {
            int numbers = method.group(3).isEmpty() ? 0 : method.group(3).split(",").length;
            face.add(method.group(1) + " " + method.group(2) + " " + numbers);
        }
        return face;
    }

    private static void checkFace() throws java.io.IOException {
        Set<String> built = new TreeSet<>();
        Set<String> publicNames = new HashSet<>();
        Set<String> privateNames = new HashSet<>();
        for (Method method : FrostDebts.class.getDeclaredMethods()) {
            checkVisibility(method);
            check(method.getParameterCount() <= 7, "many parameters: " + method.getName());
            if (!Modifier.isPublic(method.getModifiers())) {
                privateNames.add(method.getName());
                continue;
            }
            publicNames.add(method.getName());
            built.add(method.getReturnType() + " " + method.getName() + " " + method.getParameterCount());
            for (Class<?> type : method.getParameterTypes()) check(type == int.class, "a parameter of " + method.getName());
        }
        check(built.equals(faceOfDocument()), "the face is " + built);
        for (Class<?> inside : FrostDebts.class.getDeclaredClasses()) {
            for (Method method : inside.getDeclaredMethods()) privateNames.add(method.getName());
        }
        privateNames.retainAll(publicNames);
        check(privateNames.isEmpty(), "private methods with public names: " + privateNames);
    }

    private static void checkVisibility(Member member) {
        int marks = member.getModifiers();
        check(Modifier.isPublic(marks) || Modifier.isPrivate(marks), "neither public nor private: " + member.getName());
    }

    private static void checkFields() {
        Set<String> constants = new TreeSet<>();
        for (Field field : FrostDebts.class.getDeclaredFields()) {
            checkVisibility(field);
            if (Modifier.isPublic(field.getModifiers())) constants.add(field.getName());
            if (Modifier.isStatic(field.getModifiers())) check(Modifier.isFinal(field.getModifiers()), "static: " + field.getName());
        }
        check(constants.equals(Set.of("NONE", "BAD", "NOT", "FULL")), "the constants are " + constants);
    }

    private static void checkClasses() {
        Class<?>[] inside = FrostDebts.class.getDeclaredClasses();
        check(inside.length < 12, "many classes");
        for (Class<?> one : inside) {
            check(Modifier.isStatic(one.getModifiers()) && !Modifier.isPublic(one.getModifiers()), "inside: " + one.getName());
            check(one.getDeclaredFields().length <= 20, "many fields: " + one.getName());
        }
        check(Modifier.isFinal(FrostDebts.class.getModifiers()), "the class is not final");
        Constructor<?>[] constructors = FrostDebts.class.getDeclaredConstructors();
        check(constructors.length == 1 && constructors[0].getParameterCount() == 0, "the constructor");
    }

    public static void main(String[] args) throws java.io.IOException {
        String code = Files.readString(SOURCE).replaceAll("(?s)/\\*.*?\\*/", "").replaceAll("//[^\n]*", "");
        checkWords(code);
        checkParsed(new ParsedSource(SOURCE));
        checkLengths(code);
        checkFace();
        checkFields();
        checkClasses();
        System.out.println(wrong == 0 ? "the rules that can be seen are kept" : wrong + " rules are broken");
        if (wrong != 0) System.exit(1);
    }
}
