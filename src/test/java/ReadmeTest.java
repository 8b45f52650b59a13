import java.io.IOException;
import java.lang.reflect.Method;
import java.lang.reflect.Modifier;
import java.nio.file.Files;
import java.nio.file.Path;
import java.util.ArrayList;
import java.util.Arrays;
import java.util.List;
import java.util.Map;
import java.util.Set;
import java.util.TreeSet;
import java.util.regex.Matcher;
import java.util.regex.Pattern;

/** What README.md tells of the class: the answers of its examples, the bounds of its tables, the four answers. */
public final class ReadmeTest {
    private static final Pattern EXAMPLE = Pattern.compile("x\\.(\\w+)\\(([^)]*)\\);\\s+// (-?\\d+|[A-Z]+)(?:[: ].*)?");
    private static final Pattern TOLD_CALL = Pattern.compile("\\| `(\\w+)\\(([^)]*)\\)` \\| ([^|]*)\\|.*");
    private static final Pattern BOUND = Pattern.compile("`(\\w+)` (?:(-?\\d+) to (-?\\d+)|from (-?\\d+) on)");
    private static final Pattern TOLD_ANSWER = Pattern.compile("\\| `([A-Z]+)` \\| (-?\\d+) \\|.*");
    private static final Map<String, Integer> ANSWERS = Map.of("BAD", SpokenMenus.BAD, "NO", SpokenMenus.NO,
        "FULL", SpokenMenus.FULL, "NONE", SpokenMenus.NONE);
    /** Numbers that are told in words, not by bounds. */
    private static final Set<String> IN_WORDS = Set.of("line place", "change place", "change i", "change v", "swap place",
        "swap i", "swap j", "place p", "lineOf place", "lineOf i", "fewest place", "hung place", "order place", "arrange place");
    private static final Due d = new Due();

    public static void main(String[] args) throws IOException {
        List<String> rows = Files.readAllLines(Path.of("README.md"));
        examples(rows);
        tables(rows);
        fourAnswers(rows);
        badElsewhere();
        d.end();
    }

    /** Every row of an example tells its answer, and every call has one. */
    private static void examples(List<String> rows) {
        SpokenMenus x = new SpokenMenus();
        Set<String> shown = new TreeSet<>();
        boolean inside = false;
        for (String row : rows) {
            if (row.startsWith("```")) {
                inside = row.equals("```java");
            } else if (inside && row.equals("SpokenMenus x = new SpokenMenus();")) {
                d.holds("one object in all examples", shown.isEmpty());
            } else if (inside) {
                Matcher m = EXAMPLE.matcher(row);
                d.holds("an example with its answer: " + row, m.matches());
                if (m.matches()) {
                    shown.add(m.group(1));
                    d.due("README: " + row, new Call(m.group(1), numbers(m.group(2))).on(x), answer(m.group(3)));
                }
            }
        }
        d.holds("an example of each call, " + shown, shown.equals(new TreeSet<>(Arrays.asList(Call.NAMES))));
    }

    /** Every call stands in a table, with the numbers of the face and their bounds. */
    private static void tables(List<String> rows) {
        Set<String> told = new TreeSet<>();
        for (String row : rows) {
            Matcher m = TOLD_CALL.matcher(row);
            if (m.matches()) {
                String name = m.group(1);
                List<String> taken = m.group(2).isEmpty() ? List.of() : List.of(m.group(2).split(", "));
                d.holds(name + " is told once", told.add(name));
                d.due(name + ": how many numbers", taken.size(), taken(name));
                bounds(name, taken, m.group(3));
            }
        }
        d.holds("each call in a table, " + told, told.equals(new TreeSet<>(Arrays.asList(Call.NAMES))));
    }

    private static void bounds(String name, List<String> taken, String words) {
        Set<String> left = new TreeSet<>(taken);
        Matcher m = BOUND.matcher(words);
        while (m.find()) {
            String number = m.group(1);
            d.holds(name + " takes " + number + ", bounded once", left.remove(number));
            boolean open = m.group(4) != null;
            int least = Integer.parseInt(open ? m.group(4) : m.group(2));
            int greatest = open ? Integer.MAX_VALUE : Integer.parseInt(m.group(3));
            int at = taken.indexOf(number);
            d.holds(name + ", " + number + " " + least, !isBad(name, at, least));
            d.holds(name + ", " + number + " " + greatest, !isBad(name, at, greatest));
            d.holds(name + ", " + number + " below " + least, isBad(name, at, least - 1));
            d.holds(name + ", " + number + " far below", isBad(name, at, Integer.MIN_VALUE));
            d.holds(name + ", " + number + " above " + greatest, open || isBad(name, at, greatest + 1));
        }
        for (String number : left) {
            d.holds(name + " has no bounds for " + number, IN_WORDS.contains(name + " " + number));
        }
    }

    /** Whether a call that is good otherwise is BAD with this number, in a house of its own. */
    private static boolean isBad(String name, int at, int v) {
        SpokenMenus x = Ask.house(Call.of("menu", 5, 1, -1), Call.of("line", 0, 10, 1, 1, 1), Call.of("line", 0, 8, 2, 2, 1),
            Call.of("desk", 3, 3), Call.of("group", 1, 0, 0, 9, 0, 0), Call.of("plan", 8, 5, 3), Call.of("ring", 0, 0, 99, 0, 0));
        int[] a = good(name);
        a[at] = v;
        return new Call(name, a).on(x) == badOf(name);
    }

    private static int[] good(String name) {
        switch (name) {
            case "menu": case "leaf": return new int[] {1, 1, 1};
            case "line": return new int[] {0, 1, 5, 1, 1};
            case "asked": return new int[] {1, 1, 1, 1, 1};
            case "lineOf": return new int[] {0, 0, 0};
            case "change": return new int[] {0, 0, 0, 1};
            case "clock": return new int[] {1, 1, 1, 1};
            case "ring": return new int[] {1, 1, 1, 1, 1};
            case "fewest": return new int[] {0, 1, 1, 1};
            case "group": return new int[] {1, 1, 1, 1, 1, 1};
            case "order": return new int[] {0, 1};
            case "wish": return new int[] {1, 1, 1};
            case "plan": return new int[] {2, 2, 2};
            case "desk": case "place": case "trap": case "planned": return new int[] {1, 1};
            default: return new int[] {0};
        }
    }

    /** The answers that README.md says are BAD there. */
    private static int badOf(String name) {
        return Set.of("change", "place", "lineOf").contains(name) ? -1000 : -1;
    }

    private static void fourAnswers(List<String> rows) {
        Set<String> told = new TreeSet<>();
        for (String row : rows) {
            Matcher m = TOLD_ANSWER.matcher(row);
            if (m.matches()) {
                told.add(m.group(1));
                d.due(m.group(1), answer(m.group(1)), Integer.parseInt(m.group(2)));
            }
        }
        d.holds("the four answers, " + told, told.equals(ANSWERS.keySet()));
        d.holds("where BAD is -1000", String.join(" ", rows).contains("`change`, `place` and `lineOf` say -1000 for BAD"));
    }

    /** "Everywhere else BAD is -1": calls that take a number outside of all bounds; the three say -1000. */
    private static void badElsewhere() {
        for (String name : Call.NAMES) {
            int[] a = new int[taken(name)];
            Arrays.fill(a, Integer.MIN_VALUE);
            if (a.length > 0) {
                d.due(name + " with numbers outside of all bounds", new Call(name, a).on(new SpokenMenus()), badOf(name));
            }
        }
    }

    private static int taken(String name) {
        for (Method m : SpokenMenus.class.getDeclaredMethods()) {
            if (m.getName().equals(name) && Modifier.isPublic(m.getModifiers())) {
                return m.getParameterCount();
            }
        }
        return -1;
    }

    private static int answer(String told) {
        return ANSWERS.containsKey(told) ? ANSWERS.get(told) : Integer.parseInt(told);
    }

    private static int[] numbers(String told) {
        List<Integer> row = new ArrayList<>();
        for (String number : told.isEmpty() ? new String[0] : told.split(", ")) {
            row.add(number.startsWith("0b") ? Integer.parseInt(number.substring(2), 2) : Integer.parseInt(number));
        }
        return row.stream().mapToInt(Integer::intValue).toArray();
    }
}
