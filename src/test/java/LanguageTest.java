import java.io.IOException;
import java.lang.reflect.Constructor;
import java.lang.reflect.Field;
import java.lang.reflect.Member;
import java.lang.reflect.Method;
import java.lang.reflect.Modifier;
import java.nio.charset.StandardCharsets;
import java.nio.file.Files;
import java.nio.file.Path;
import java.util.ArrayList;
import java.util.Arrays;
import java.util.List;
import java.util.Set;
import java.util.TreeSet;
import java.util.regex.Pattern;

/** The face of the class, and the rules of LANGUAGE.md that can be read off the class and its source. */
public final class LanguageTest {
    private static final String FACE = "letter(int):int tells():int paper(int):int kind(int,int,int):int raw(int,int):int "
        + "heavy(int,int):int place(int,int):int rule(int,int):int free(int):int limit(int):int limits():int ties(int):int "
        + "of(int,int):int ruleOf(int,int):int under(int,int):int pairs(int):int line(int,int,int):long "
        + "block(int,int):int merges(int):int lineChange(int,int):long value(int,int,int):long grade(int,int):int "
        + "change(int,int):long pool(int,int):int binds(int):int worth(int,int,int):long dearest(int):int "
        + "needs(int,int,int):int likely(int,int,int,int):long says(int,int):int whatIs(int,int):int row(int):int "
        + "clear():int lots(int,int,int):int shelf(int,int):int put(int,int,long):int look(int,int):long "
        + "lays(int,int,int):int judge(int,int):int image():int on():int count(int):int";
    private static final String[] FORBIDDEN = {
        "throw", "try", "catch", "synchronized", "assert", "import", "package", "->", "::", "hashCode", "System",
        "static \\{", "Exact\\b", "\\bList\\b", "Integer\\[", "while \\(true\\)", "for \\(;;\\)", "\" \\+", "\\+ \"", "@"
    };

    private static int wrong;

    private static void due(boolean fine, String what) {
        if (!fine) {
            wrong++;
            System.out.println("against the language: " + what);
        }
    }

    public static void main(String[] args) throws IOException {
        face();
        members();
        List<String> lines = Files.readAllLines(Path.of("src/main/java/LatticeGrader.java"), StandardCharsets.UTF_8);
        words(lines);
        lengths(lines);
        System.out.println(wrong == 0 ? "the language is kept to" : wrong + " places are against the language");
        if (wrong != 0) {
            System.exit(1);
        }
    }

    private static void face() {
        Class<?> face = LatticeGrader.class;
        due(Modifier.isFinal(face.getModifiers()) && Modifier.isPublic(face.getModifiers()), "the class, public and final");
        Set<String> due = new TreeSet<>(Arrays.asList(FACE.split(" ")));
        Set<String> names = new TreeSet<>();
        Set<String> got = new TreeSet<>();
        for (Method m : face.getDeclaredMethods()) {
            if (Modifier.isPublic(m.getModifiers())) {
                got.add(signature(m));
                names.add(m.getName());
                due(!Modifier.isStatic(m.getModifiers()), "static " + m.getName());
            }
        }
        due(got.equals(due), "the face: " + got);
        due(due.size() == 42, "42 methods");
        for (Member m : all(face)) {
            boolean isFace = m instanceof Method && names.contains(m.getName()) && Modifier.isPublic(m.getModifiers());
            due(isFace || Modifier.isPrivate(m.getModifiers()) || m instanceof Constructor<?>, "not private: " + m);
        }
        due(face.getDeclaredConstructors().length == 1, "one constructor");
        due(face.getConstructors().length == 1, "a public one");
        for (Class<?> inner : face.getDeclaredClasses()) {
            for (Method m : inner.getDeclaredMethods()) {
                due(!names.contains(m.getName()), "a name of the face within: " + m);
            }
        }
    }

    private static String signature(Method m) {
        List<String> types = new ArrayList<>();
        for (Class<?> type : m.getParameterTypes()) {
            types.add(type.getName());
        }
        return m.getName() + "(" + String.join(",", types) + "):" + m.getReturnType().getName();
    }

    private static List<Member> all(Class<?> of) {
        List<Member> members = new ArrayList<>();
        for (List<? extends Member> some : List.of(Arrays.asList(of.getDeclaredMethods()),
            Arrays.asList(of.getDeclaredFields()), Arrays.asList(of.getDeclaredConstructors()))) {
            for (Member m : some) {
                if (!m.isSynthetic()) {
                    members.add(m);
                }
            }
        }
        return members;
    }

    private static void members() {
        List<Class<?>> classes = new ArrayList<>(List.of(LatticeGrader.class));
        classes.addAll(Arrays.asList(LatticeGrader.class.getDeclaredClasses()));
        due(classes.size() <= 12, classes.size() + " classes");
        for (Class<?> c : classes) {
            int fields = 0;
            for (Field f : c.getDeclaredFields()) {
                if (Modifier.isStatic(f.getModifiers())) {
                    due(Modifier.isFinal(f.getModifiers()), "static, not final: " + f);
                } else {
                    fields++;
                }
            }
            due(fields <= 20, fields + " fields in " + c);
            for (Method m : c.getDeclaredMethods()) {
                due(m.getParameterCount() <= 7, "parameters of " + m);
            }
            due(c == LatticeGrader.class || Modifier.isStatic(c.getModifiers()), "not static: " + c);
            due(c == LatticeGrader.class || Modifier.isPrivate(c.getModifiers()), "not private: " + c);
        }
    }

    private static void words(List<String> lines) {
        for (int i = 0; i < lines.size(); i++) {
            String line = lines.get(i);
            due(line.chars().allMatch(c -> c >= 32 && c < 127), "a sign in line " + (i + 1));
            boolean isComment = line.trim().startsWith("/**") || line.trim().startsWith("//") || line.trim().startsWith("*");
            for (String word : FORBIDDEN) {
                due(isComment || !Pattern.compile(word).matcher(line).find(), word + " in line " + (i + 1));
            }
        }
    }

    private static void lengths(List<String> lines) {
        int first = 0;
        String indent = null;
        for (int i = 0; i < lines.size(); i++) {
            String line = lines.get(i);
            if (indent == null && line.matches("( {4}| {8})[A-Za-z].*\\) \\{")) {
                first = i;
                indent = line.substring(0, line.length() - line.stripLeading().length());
            } else if (indent != null && line.equals(indent + "}")) {
                due(i - first <= 60, "a method of " + (i - first) + " lines from line " + (first + 1));
                indent = null;
            }
        }
    }
}
