import java.io.IOException;
import java.lang.reflect.Constructor;
import java.lang.reflect.Field;
import java.lang.reflect.Method;
import java.lang.reflect.Modifier;
import java.nio.file.Files;
import java.nio.file.Path;
import java.util.Set;
import java.util.TreeSet;
import java.util.regex.Matcher;
import java.util.regex.Pattern;

/** The face of the class, and those rules of ../shared/LANGUAGE.md that can be seen from outside or from its words. */
public final class LanguageTest {
    private static final Check check = new Check();

    public static void main(String[] args) throws IOException {
        face();
        constants();
        classesInside();
        String source = Files.readString(Path.of("src/main/java/LeastCurves.java"));
        String code = source.replaceAll("(?s)/\\*.*?\\*/", " ").replaceAll("//[^\n]*", " ").replaceAll("'[^']*'", "0");
        words(code);
        library(code);
        names(code);
        lengths(source);
        check.end("LanguageTest");
    }

    private static void fail(String what) {
        check.due(what, 1, 0);
    }

    private static void face() {
        Set<String> due = new TreeSet<>(Set.of("int write(int)", "int erase()", "int fault()", "int curves()",
            "int term(int,int,int)", "int value(int,int,int,int,int)", "int put(int,int,int,int)", "int drop(int,int,int)",
            "int move(int,int,int)", "int mirror(int)", "int join(int)", "int times(int)", "int undo()", "int keep(int)",
            "int back(int)", "int corner(int,int,int)", "int edge(int,int,int)", "long region(int,int,int,int)",
            "int lift(int,int,int)", "long way(int,int,int,int)", "int meeting(int,int)", "int count(int,int)", "int tally(int)"));
        Set<String> seen = new TreeSet<>();
        Set<String> publicNames = new TreeSet<>();
        Set<String> privateNames = new TreeSet<>();
        for (Method method : LeastCurves.class.getDeclaredMethods()) {
            if (Modifier.isPublic(method.getModifiers())) {
                String told = method.toString();
                seen.add(method.getReturnType() + " " + told.substring(told.indexOf("LeastCurves.") + 12));
                publicNames.add(method.getName());
            } else {
                check.due(method + " is private", Modifier.isPrivate(method.getModifiers()) ? 1 : 0, 1);
                privateNames.add(method.getName());
            }
        }
        check.due("the methods are " + seen, seen.equals(due) ? 1 : 0, 1);
        privateNames.retainAll(publicNames);
        check.due("private methods with public names: " + privateNames, privateNames.size(), 0);
        Constructor<?>[] constructors = LeastCurves.class.getDeclaredConstructors();
        check.due("constructors", constructors.length, 1);
        check.due("it takes", constructors[0].getParameterCount(), 0);
        check.due("it is public", Modifier.isPublic(constructors[0].getModifiers()) ? 1 : 0, 1);
        int modifiers = LeastCurves.class.getModifiers();
        check.due("public and final", Modifier.isPublic(modifiers) && Modifier.isFinal(modifiers) ? 1 : 0, 1);
    }

    private static void constants() {
        check.due("NONE", LeastCurves.NONE, -1000000);
        check.due("UNKNOWN", LeastCurves.UNKNOWN, -1000001);
        check.due("OUTSIDE", LeastCurves.OUTSIDE, -1000002);
        check.due("NOT", LeastCurves.NOT, -1000003);
        check.due("FULL", LeastCurves.FULL, -1000004);
        Set<String> seen = new TreeSet<>();
        for (Field field : LeastCurves.class.getDeclaredFields()) {
            int modifiers = field.getModifiers();
            if (Modifier.isPublic(modifiers)) {
                seen.add(field.getName());
                check.due(field + " is a constant", field.getType() == int.class && Modifier.isStatic(modifiers) && Modifier.isFinal(modifiers) ? 1 : 0, 1);
            } else {
                check.due(field + " is private", Modifier.isPrivate(modifiers) ? 1 : 0, 1);
            }
        }
        check.due("the constants are " + seen, seen.equals(Set.of("NONE", "UNKNOWN", "OUTSIDE", "NOT", "FULL")) ? 1 : 0, 1);
    }

    private static void classesInside() {
        Class<?>[] inside = LeastCurves.class.getDeclaredClasses();
        check.due("at most twelve classes", inside.length + 1 <= 12 ? 1 : 0, 1);
        ownFields(LeastCurves.class);
        for (Class<?> one : inside) {
            int modifiers = one.getModifiers();
            check.due(one + " is static", Modifier.isStatic(modifiers) ? 1 : 0, 1);
            check.due(one + " is hidden", Modifier.isPublic(modifiers) || Modifier.isProtected(modifiers) ? 1 : 0, 0);
            check.due(one + " has no classes inside", one.getDeclaredClasses().length, 0);
            ownFields(one);
        }
    }

    private static void ownFields(Class<?> one) {
        int fields = 0;
        for (Field field : one.getDeclaredFields()) {
            boolean isStatic = Modifier.isStatic(field.getModifiers());
            fields += isStatic ? 0 : 1;
            check.due(field + " may change", isStatic && !Modifier.isFinal(field.getModifiers()) ? 1 : 0, 0);
        }
        check.due(one + " has at most twenty fields", fields <= 20 ? 1 : 0, 1);
        for (Method method : one.getDeclaredMethods()) {
            check.due(method + " takes at most seven", method.getParameterCount() <= 7 ? 1 : 0, 1);
        }
    }

    private static void words(String code) {
        Matcher banned = Pattern.compile("\\b(throw|throws|try|catch|finally|synchronized|assert|import|package|protected|native|"
            + "transient|volatile|float|double|Exact|random|System|Object|equals|hashCode|toString)\\b|->|::|static \\{|@|\\w+Exact").matcher(code);
        while (banned.find()) {
            fail("the word " + banned.group());
        }
        Matcher loops = Pattern.compile("while \\(true|for \\(;;|for \\([^;]*;\\s*;").matcher(code);
        while (loops.find()) {
            fail("a loop without a bound");
        }
    }

    private static void library(String code) {
        Matcher used = Pattern.compile("\\b(Math|Integer|Long|String|StringBuilder|Arrays|ArrayList|List)\\b(\\.\\w+)?").matcher(code);
        Set<String> allowed = Set.of("Math.min", "Math.max", "Math.abs", "Math.floorDiv", "Integer.bitCount", "Long.compare");
        while (used.find()) {
            check.due("the library's " + used.group() + " stands in the rules", allowed.contains(used.group()) ? 1 : 0, 1);
        }
    }

    /** No method of the classes inside is called like one of the face either; so the rule holds however it is read. */
    private static void names(String code) {
        String face = "write|erase|fault|curves|term|value|put|drop|move|mirror|join|times|undo|keep|back|corner|edge|region|lift|way|meeting|count|tally";
        Matcher methods = Pattern.compile("(?m)^ ++(?!public)[\\w \\[\\]]*\\b(" + face + ")\\([\\w ,\\[\\]]*\\) \\{").matcher(code);
        while (methods.find()) {
            fail("a method of the name " + methods.group(1));
        }
    }

    private static void lengths(String source) {
        int begin = -1;
        String[] lines = source.split("\n");
        for (int k = 0; k < lines.length; k++) {
            if (lines[k].matches("(    |        )[^ /*}].*\\) \\{")) {
                begin = k;
            }
            if (lines[k].matches("(    |        )\\}") && begin >= 0) {
                check.due("the method of line " + (begin + 1) + " has at most sixty lines", k - begin < 60 ? 1 : 0, 1);
                begin = -1;
            }
            check.due("a sign above 127 in line " + (k + 1), lines[k].chars().anyMatch(c -> c > 127) ? 1 : 0, 0);
        }
    }
}
