import java.io.IOException;
import java.lang.reflect.Method;
import java.lang.reflect.Modifier;
import java.nio.file.Files;
import java.nio.file.Path;
import java.util.HashMap;
import java.util.List;
import java.util.Map;
import java.util.Set;
import java.util.TreeMap;
import java.util.TreeSet;
import java.util.regex.Matcher;
import java.util.regex.Pattern;

/** README.md: every call with what it tells for others, and rows of Java that answer as it says. */
public final class ReadmeTest extends Checks {
    private static final Path PAGE = Path.of("README.md");
    private static final Pattern TOLD = Pattern.compile("\\| `(\\w+) (\\w+)\\(([^)]*)\\)` \\|(.*)\\|");
    private static final Pattern ASKED =
        Pattern.compile("(?:int (\\w+) = )?day\\.(\\w+)\\(([^)]*)\\); +// (-?\\d+|true|false)(?::.*)?");
    private static final String MADE = "BusBlocks day = new BusBlocks();";

    private final Bench bench = Bench.ofBusBlocks();
    private final Map<String, Integer> known = new HashMap<>();
    private final Set<String> asked = new TreeSet<>();

    private ReadmeTest() {
        known.put("true", 1);
        known.put("false", 0);
        known.put("BusBlocks.NONE", NONE);
    }

    public static void main(String[] args) throws IOException {
        List<String> page = Files.readAllLines(PAGE);
        allCallsAreTold(page);
        due("README.md says how many calls an object is used for",
            String.join(" ", page).contains("at most 512 calls"), true);
        due("README.md says how the tests are run", String.join(" ", page).contains("`bash .ci/run`"), true);
        new ReadmeTest().rowsAnswerAsTheySay(page);
        end();
    }

    /** Calls without the names of what they take, each with the last cell of its row. */
    private static void allCallsAreTold(List<String> page) {
        Map<String, String> told = new TreeMap<>();
        for (String row : page) {
            Matcher call = TOLD.matcher(row);
            if (call.matches()) {
                String kinds = call.group(3).replaceAll("(\\w+) \\w+", "$1").replace(" ", "");
                String[] cells = call.group(4).split("\\|");
                told.put(call.group(1) + " " + call.group(2) + "(" + kinds + ")", cells[cells.length - 1]);
            }
        }
        Set<String> face = new TreeSet<>();
        for (Method m : BusBlocks.class.getDeclaredMethods()) {
            if (Modifier.isPublic(m.getModifiers())) {
                String text = call(m);
                face.add(text);
                due("README.md says what " + text + " tells for others", others(told.get(text), m), true);
            }
        }
        due("README.md names the public face, and no more: " + told.keySet(), told.keySet().equals(face), true);
    }

    private static String call(Method m) {
        StringBuilder kinds = new StringBuilder();
        for (Class<?> kind : m.getParameterTypes()) {
            kinds.append(kinds.length() == 0 ? "" : ",").append(kind.getName());
        }
        return m.getReturnType().getName() + " " + m.getName() + "(" + kinds + ")";
    }

    private static boolean others(String cell, Method m) {
        if (cell == null) {
            return false;
        }
        String answer = m.getReturnType() == boolean.class ? "`false`"
            : m.getName().equals("saves") ? "-100"
            : m.getName().equals("roster") ? "-2"
            : m.getParameterCount() == 0 ? "takes nothing" : "`NONE`";
        return cell.strip().startsWith(answer);
    }

    /** All rows of Java are of one object, in their order. */
    private void rowsAnswerAsTheySay(List<String> page) {
        boolean java = false;
        for (String row : page) {
            if (row.startsWith("```")) {
                java = row.equals("```java");
            } else if (java && !row.equals(MADE)) {
                answersAsItSays(row);
            }
        }
        due("README.md shows every call: " + asked, asked.size(), publicCalls());
    }

    private void answersAsItSays(String row) {
        Matcher call = ASKED.matcher(row);
        String[] words = call.matches() && !call.group(3).isEmpty() ? call.group(3).split(", ") : new String[0];
        boolean canAsk = call.matches() && areKnown(words);
        due("README.md has a call and its answer in the row " + row, canAsk, true);
        if (!canAsk) {
            return;
        }
        int[] of = new int[words.length];
        for (int i = 0; i < of.length; i++) {
            of[i] = value(words[i]);
        }
        int answer = bench.ask(call.group(2), of);
        due(row, answer, value(call.group(4)));
        asked.add(call.group(2));
        if (call.group(1) != null) {
            known.put(call.group(1), answer);
        }
    }

    private boolean areKnown(String[] words) {
        for (String word : words) {
            if (!known.containsKey(word) && !word.matches("-?\\d{1,9}")) {
                return false;
            }
        }
        return true;
    }

    private int value(String word) {
        return known.containsKey(word) ? known.get(word) : Integer.parseInt(word);
    }

    private static int publicCalls() {
        int calls = 0;
        for (Method m : BusBlocks.class.getDeclaredMethods()) {
            calls += Modifier.isPublic(m.getModifiers()) ? 1 : 0;
        }
        return calls;
    }
}
