import java.lang.reflect.Method;
import java.lang.reflect.Modifier;
import java.nio.file.Files;
import java.nio.file.Path;
import java.util.ArrayList;
import java.util.HashMap;
import java.util.List;
import java.util.Map;
import java.util.regex.Matcher;
import java.util.regex.Pattern;

/** README.md held to its word: its examples answer as it says, and it tells each call with the document's refusals. */
public final class ReadmeTest {
    private static final Map<String, Integer> NUMBERS = Map.of("NONE", CountOut.NONE, "UNKNOWN", CountOut.UNKNOWN,
            "OUTSIDE", CountOut.OUTSIDE, "STATE", CountOut.STATE, "FULL", CountOut.FULL);
    private static final Pattern REFUSAL = Pattern.compile("\\b(UNKNOWN|OUTSIDE|STATE|FULL)\\b");
    private static final Pattern MADE = Pattern.compile("CountOut x = new CountOut\\(\\);");
    private static final Pattern WRITTEN = Pattern.compile("for \\(char sign : \"(.*)\"\\.toCharArray\\(\\)\\) \\{");
    private static final Pattern CALLED = Pattern.compile("x\\.(\\w+)\\(([-\\d, ]*)\\); +// (-?\\d+|[A-Z]+)\\b.*");
    private static int wrong;

    public static void main(String[] args) throws Exception {
        String page = Files.readString(Path.of("README.md"));
        String document = Files.readString(Path.of("../shared/DOC.md"));
        Map<String, Method> face = face();
        int calls = examples(page, face);
        constants(page);
        table(page, document, face);
        hold(page.contains(".ci/run"), "how to run the tests is not told");
        System.out.println(calls + " calls of README.md run, " + wrong + " faults");
        if (wrong != 0) {
            System.exit(1);
        }
    }

    private static void hold(boolean holds, String fault) {
        if (!holds) {
            wrong++;
            System.out.println(fault);
        }
    }

    private static Map<String, Method> face() {
        Map<String, Method> face = new HashMap<>();
        for (Method method : CountOut.class.getDeclaredMethods()) {
            if (Modifier.isPublic(method.getModifiers())) {
                face.put(method.getName(), method);
            }
        }
        return face;
    }

    /** The examples are one run, from one block to the next. */
    private static int examples(String page, Map<String, Method> face) throws Exception {
        CountOut x = null;
        int calls = 0;
        Matcher blocks = Pattern.compile("(?s)```java\n(.*?)```").matcher(page);
        while (blocks.find()) {
            for (String line : blocks.group(1).split("\n")) {
                Matcher written = WRITTEN.matcher(line);
                Matcher called = CALLED.matcher(line);
                if (MADE.matcher(line).matches()) {
                    x = new CountOut();
                } else if (x != null && written.matches()) {
                    for (char sign : written.group(1).toCharArray()) {
                        x.letter(sign);
                    }
                } else if (x != null && called.matches()) {
                    answers(x, line, face.get(called.group(1)), called.group(2), called.group(3));
                    calls++;
                } else {
                    hold(line.equals("    x.letter(sign);") || line.equals("}"), "what should this answer: " + line);
                }
            }
        }
        hold(calls > 0, "there are no examples");
        return calls;
    }

    private static void answers(CountOut x, String line, Method method, String numbers, String told) throws Exception {
        if (method == null) {
            hold(false, "there is no such call: " + line);
            return;
        }
        List<Object> arguments = new ArrayList<>();
        for (String number : numbers.isEmpty() ? new String[0] : numbers.split(", ")) {
            arguments.add(Integer.parseInt(number));
        }
        long got = ((Number) method.invoke(x, arguments.toArray())).longValue();
        long want = NUMBERS.containsKey(told) ? NUMBERS.get(told) : Long.parseLong(told);
        hold(got == want, line + " answered " + got);
    }

    private static void constants(String page) {
        NUMBERS.forEach((name, number) -> hold(page.contains("| `" + name + "` | " + number + " |"),
                name + " is not told as " + number));
    }

    private static void table(String page, String document, Map<String, Method> face) {
        face.forEach((name, method) -> {
            Matcher row = Pattern.compile("\\| `" + name + "\\(([a-z, ]*)\\)` \\| (.*) \\| ?(.*) ?\\|").matcher(page);
            Matcher promise = Pattern.compile("`\\w+ " + name + "\\((.*)\\)`: (.*)").matcher(document);
            if (!row.find() || !promise.find()) {
                hold(false, name + " is not told");
                return;
            }
            hold(row.group(1).equals(promise.group(1).replace("int ", "")), name + " is told of " + row.group(1));
            hold(refusals(row.group(3)).equals(refusals(promise.group(2))),
                    name + " refuses by " + refusals(promise.group(2)) + ", not by " + refusals(row.group(3)));
        });
    }

    private static List<String> refusals(String text) {
        List<String> refusals = new ArrayList<>();
        Matcher found = REFUSAL.matcher(text);
        while (found.find()) {
            refusals.add(found.group());
        }
        return refusals;
    }
}
