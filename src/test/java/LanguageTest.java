import java.io.IOException;
import java.lang.reflect.Constructor;
import java.lang.reflect.Field;
import java.lang.reflect.Method;
import java.lang.reflect.Modifier;
import java.nio.file.Files;
import java.nio.file.Path;
import java.util.Arrays;
import java.util.TreeSet;
import java.util.regex.Matcher;
import java.util.regex.Pattern;

/** The document's face, and those rules of LANGUAGE.md that can be seen from the file's words. */
public final class LanguageTest {
    private static final String[] FACE = {
        "int feed(int)", "int end(int)", "int text()", "int fault()", "int rule(int)", "int hand(int,int)",
        "int page(int,int)", "int likes(int,int)", "int rather(int,int)", "int alter(int,int,int)",
        "int run(int,boolean)", "int fold(int,int,boolean)", "int wed(int,int)", "int part(int)",
        "int asked(int,int)", "int sum(int)", "int hold(int)", "int most(int)", "int quarrel(int)", "int alone()",
        "int years(int)", "int alike()", "int near(int)", "int forge(int,int)", "int swap(int)",
        "long mean(int,int)", "long luck(int,int,int)", "int see(int,int,int)", "int forget(int)", "int fits(int)",
        "int look(int,int)", "int drift(int,int,int)", "int keep(int)", "int back(int)", "int sheet(int,int,int)",
        "int lay(int,int,int)", "int read(int,int,int,int)", "int torn()", "int count(int)"};
    private static final String[] FORBIDDEN = {
        "\\bthrow", "\\btry\\b", "\\bcatch\\b", "\\bsynchronized\\b", "\\bassert\\b", "->", "::", "Exact\\(",
        "\\bObject\\b", "\\bpackage\\b", "\\bprotected\\b", "\\bhashCode\\b", "\\btoString\\b", "\" *\\+", "\\+ *\"",
        "\\bMap\\b", "\\bRandom\\b", "\\bThread\\b", "System\\.(?!arraycopy)", "java\\.(?!util\\.Arrays;)"};

    private static final Due DUE = new Due("LanguageTest");

    public static void main(String[] args) throws IOException {
        constants();
        methods();
        nestedClasses();
        words(Files.readString(Path.of("src/main/java/HandMarket.java")));
        DUE.close();
    }

    private static void constants() {
        DUE.is("BAD", HandMarket.BAD, -1);
        DUE.is("STATE", HandMarket.STATE, -2);
        DUE.is("FULL", HandMarket.FULL, -3);
        DUE.is("NONE", HandMarket.NONE, -4);
        TreeSet<String> open = new TreeSet<>();
        for (Field f : HandMarket.class.getDeclaredFields()) {
            if (!Modifier.isPrivate(f.getModifiers())) {
                open.add(f.getName());
            }
            DUE.isTrue("a static field is final: " + f,
                !Modifier.isStatic(f.getModifiers()) || Modifier.isFinal(f.getModifiers()));
        }
        DUE.isTrue("no other constant: " + open, open.equals(new TreeSet<>(Arrays.asList("BAD", "STATE", "FULL", "NONE"))));
    }

    private static void methods() {
        TreeSet<String> open = new TreeSet<>();
        TreeSet<String> names = new TreeSet<>();
        for (Method m : HandMarket.class.getDeclaredMethods()) {
            DUE.isTrue("private or public: " + m, Modifier.isPublic(m.getModifiers()) || Modifier.isPrivate(m.getModifiers()));
            if (Modifier.isPublic(m.getModifiers())) {
                String types = Arrays.toString(m.getParameterTypes()).replaceAll("[\\[\\] ]", "");
                open.add(m.getReturnType() + " " + m.getName() + "(" + types + ")");
                names.add(m.getName());
            }
        }
        DUE.isTrue("the face: " + open, open.equals(new TreeSet<>(Arrays.asList(FACE))));
        for (Class<?> c : allClasses()) {
            for (Method m : c.getDeclaredMethods()) {
                DUE.isTrue("parameters of " + m, m.getParameterCount() <= 7);
                DUE.isTrue("a public name: " + m, Modifier.isPublic(m.getModifiers()) || !names.contains(m.getName()));
            }
        }
        Constructor<?>[] made = HandMarket.class.getDeclaredConstructors();
        DUE.is("constructors", made.length, 1);
        DUE.isTrue("a public one", Modifier.isPublic(made[0].getModifiers()) && made[0].getParameterCount() == 0);
        DUE.isTrue("final", Modifier.isFinal(HandMarket.class.getModifiers()));
    }

    private static Class<?>[] allClasses() {
        Class<?>[] inside = HandMarket.class.getDeclaredClasses();
        Class<?>[] all = Arrays.copyOf(inside, inside.length + 1);
        all[inside.length] = HandMarket.class;
        return all;
    }

    private static void nestedClasses() {
        DUE.isTrue("at most 12 classes", allClasses().length <= 12);
        for (Class<?> c : allClasses()) {
            long fields = Arrays.stream(c.getDeclaredFields()).filter(f -> !Modifier.isStatic(f.getModifiers())).count();
            DUE.isTrue("at most 20 fields: " + c, fields <= 20);
            DUE.isTrue("static: " + c, c == HandMarket.class || Modifier.isStatic(c.getModifiers()));
        }
    }

    private static void words(String source) {
        String code = source.replaceAll("(?s)/\\*.*?\\*/", "").replaceAll("//[^\n]*", "");
        for (String word : FORBIDDEN) {
            Matcher m = Pattern.compile(word).matcher(code);
            DUE.isTrue("not in the language: " + word, !m.find());
        }
        DUE.isTrue("signs up to 127", source.chars().allMatch(c -> c < 128));
        shortMethods(source.split("\n"));
    }

    /** A method's end is the first line behind its head that closes at the same depth. */
    private static void shortMethods(String[] lines) {
        int methods = 0;
        for (int i = 0; i < lines.length; i++) {
            Matcher head = Pattern.compile("( {4}| {8})(?! )[\\w\\[\\] ]+\\(.*\\) \\{").matcher(lines[i]);
            if (!head.matches() || lines[i].matches(" +(?:if|for|while|switch|return)\\b.*")) {
                continue;
            }
            int end = i;
            while (!lines[end].equals(head.group(1) + "}")) {
                end++;
            }
            methods++;
            DUE.isTrue("a short method, line " + (i + 1), end - i <= 60);
        }
        DUE.isTrue("methods were found", methods > FACE.length);
    }
}
