import java.lang.reflect.Constructor;
import java.lang.reflect.Executable;
import java.lang.reflect.Field;
import java.lang.reflect.Member;
import java.lang.reflect.Method;
import java.lang.reflect.Modifier;
import java.nio.file.Files;
import java.nio.file.Path;
import java.util.ArrayList;
import java.util.Arrays;
import java.util.List;
import java.util.Set;
import java.util.TreeSet;
import java.util.regex.Matcher;
import java.util.regex.Pattern;

/** What can be looked at of LANGUAGE.md without reading: the face, the names, the sizes, words that are ruled out. */
public final class LanguageTest {
    private static final Set<String> FACE = new TreeSet<>(List.of(
            "int letter(int)", "int blank()", "int fault()", "int ring()", "int child(int, int)", "int as(int, int)",
            "int verse(int, int)", "int say(int)", "int back(int)", "int first(int)", "int turn()",
            "int beats(int, int)", "int be(int, int)", "int last(int)", "int begin(int, int)", "int stand(int, int)",
            "int game(int, int, int)", "int likely(int, int)", "int see(int, int)", "int forget()", "int lengths()",
            "int from()", "int rounds(int, int, int)", "int image()", "int restore()", "int count(int)",
            "long digest()"));
    private static final Set<String> CONSTANTS = Set.of("NONE", "UNKNOWN", "OUTSIDE", "STATE", "FULL");
    private static int wrong;

    public static void main(String[] args) throws Exception {
        face();
        inside();
        words(Files.readString(Path.of("src/main/java/CountOut.java")));
        System.out.println(wrong == 0 ? "the language is kept to" : wrong + " faults against the language");
        if (wrong != 0) {
            System.exit(1);
        }
    }

    private static void hold(boolean holds, String fault) {
        if (!holds) {
            wrong++;
            System.out.println(fault);
        }
    }

    private static void face() {
        hold(Modifier.isFinal(CountOut.class.getModifiers()), "rule 1: the class is not final");
        Set<String> told = new TreeSet<>();
        for (Method method : CountOut.class.getDeclaredMethods()) {
            if (!Modifier.isPrivate(method.getModifiers()) && !method.isSynthetic()) {
                String parameters = Arrays.toString(method.getParameterTypes());
                told.add(method.getReturnType() + " " + method.getName()
                        + "(" + parameters.substring(1, parameters.length() - 1) + ")");
                hold(Modifier.isPublic(method.getModifiers()), "rule 1: not public: " + method);
            }
        }
        hold(told.equals(FACE), "rule 1: the face is " + told);
        for (Field field : CountOut.class.getDeclaredFields()) {
            boolean isConstant = CONSTANTS.contains(field.getName());
            hold(isConstant ? Modifier.isPublic(field.getModifiers()) : Modifier.isPrivate(field.getModifiers()),
                    "rule 1: " + field);
        }
        Constructor<?>[] constructors = CountOut.class.getDeclaredConstructors();
        hold(constructors.length == 1 && constructors[0].getParameterCount() == 0
                && Modifier.isPublic(constructors[0].getModifiers()), "rule 1: the constructor");
    }

    private static void inside() {
        List<Class<?>> classes = new ArrayList<>(List.of(CountOut.class.getDeclaredClasses()));
        for (Class<?> one : classes) {
            hold(Modifier.isStatic(one.getModifiers()) && !Modifier.isPublic(one.getModifiers())
                    && !Modifier.isProtected(one.getModifiers()), "rule 1: " + one);
        }
        hold(classes.size() <= 11, "rule 11: " + classes.size() + " classes inside");
        classes.add(CountOut.class);
        Set<String> publicNames = new TreeSet<>();
        FACE.forEach(method -> publicNames.add(method.replaceAll(".* (\\w+)\\(.*", "$1")));
        for (Class<?> one : classes) {
            long fields = Arrays.stream(one.getDeclaredFields()).filter(f -> !isStatic(f)).count();
            hold(fields <= 20, "rule 11: " + fields + " fields in " + one);
            for (Field field : one.getDeclaredFields()) {
                hold(!isStatic(field) || Modifier.isFinal(field.getModifiers()), "rule 5: " + field);
            }
            List<Executable> all = new ArrayList<>(List.of(one.getDeclaredMethods()));
            all.addAll(List.of(one.getDeclaredConstructors()));
            for (Executable method : all) {
                hold(method.getParameterCount() <= 7, "rule 11: " + method);
                boolean isFace = one == CountOut.class && Modifier.isPublic(method.getModifiers());
                hold(isFace || !publicNames.contains(method.getName()), "rule 1: the name of " + method);
            }
        }
    }

    private static boolean isStatic(Member member) {
        return Modifier.isStatic(member.getModifiers());
    }

    private static void words(String source) {
        String code = source.replaceAll("(?s)/\\*.*?\\*/", "").replaceAll("//.*", "").replaceAll("\"[^\"\n]*\"", "\"\"");
        for (String word : List.of("import", "package", "->", "::", "\\btry\\b", "\\bcatch\\b", "\\bfinally\\b",
                "\\bthrow\\b", "synchronized", "\\bassert\\b", "static\\s*\\{", "\\bdouble\\b", "\\bfloat\\b",
                "System\\.(?!arraycopy)", "Thread", "Random", "Exact\\b", "hashCode", "equals", "toString",
                "\\bvolatile\\b", "\\bnative\\b", "\"\"\\s*\\+", "\\+\\s*\"\"")) {
            Matcher found = Pattern.compile(word).matcher(code);
            hold(!found.find(), "ruled out or not needed: " + word);
        }
        hold(source.chars().allMatch(sign -> sign == '\n' || sign >= 32 && sign < 127), "signs beyond 126");
        shortMethods(source);
    }

    /** A method's lines stand between its head and the brace at the same depth. */
    private static void shortMethods(String source) {
        String[] lines = source.split("\n");
        for (int i = 0; i < lines.length; i++) {
            String indent = lines[i].replaceAll("\\S.*", "");
            if (lines[i].matches("\\s+[\\w\\[\\] ]+\\([\\w\\[\\], ]*\\) \\{")) {
                int end = i;
                while (end < lines.length && !lines[end].equals(indent + "}")) {
                    end++;
                }
                hold(end - i < 60, "rule 11: " + (end - i) + " lines from line " + (i + 1));
            }
        }
    }
}
