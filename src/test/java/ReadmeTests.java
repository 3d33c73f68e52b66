import java.io.IOException;
import java.lang.reflect.Method;
import java.lang.reflect.Modifier;
import java.nio.file.Files;
import java.nio.file.Path;
import java.util.HashSet;
import java.util.List;
import java.util.Set;
import java.util.regex.Matcher;
import java.util.regex.Pattern;

/** README.md's town and calls: the answers are those that stand behind the calls there. */
public final class ReadmeTests {
    private static final Checks CHECKS = new Checks();
    private static final Pattern CALL =
            Pattern.compile("x\\.(\\w+)\\(([^)]*)\\); +// (-?\\d+|true|false)");

    public static void main(String[] args) throws IOException, ReflectiveOperationException {
        CHECKS.part("README.md");
        String page = Files.readString(Path.of("README.md"));
        Matcher town = Pattern.compile("```text\n(rail.*?)```", Pattern.DOTALL).matcher(page);
        CHECKS.due("a town is told", town.find(), true);
        RailHouses x = Checks.told(town.group(1));
        int calls = 0;
        for (String line : page.split("\n")) {
            Matcher matcher = CALL.matcher(line);
            if (matcher.lookingAt()) {
                calls++;
                String answer = String.valueOf(call(x, matcher.group(1), matcher.group(2)));
                CHECKS.due(line + " .. answered " + answer, answer.equals(matcher.group(3)), true);
            }
        }
        CHECKS.due("many calls", calls > 30, true);
        namesEveryCall(page.substring(page.indexOf("### Every call")));
        CHECKS.close();
    }

    private static Object call(RailHouses x, String name, String given)
            throws ReflectiveOperationException {
        List<String> all = given.isEmpty() ? List.of() : List.of(given.split(", "));
        Object[] values = new Object[all.size()];
        for (int i = 0; i < values.length; i++) {
            boolean isNumber = all.get(i).matches("-?\\d+");
            values[i] = isNumber ? Integer.valueOf(all.get(i)) : Boolean.valueOf(all.get(i));
        }
        for (Method method : RailHouses.class.getMethods()) {
            if (method.getName().equals(name)) {
                return method.invoke(x, values);
            }
        }
        return "no such call";
    }

    private static void namesEveryCall(String list) {
        Set<String> named = new HashSet<>();
        Matcher matcher = Pattern.compile("`(\\w+)`").matcher(list);
        while (matcher.find()) {
            named.add(matcher.group(1));
        }
        for (Method method : RailHouses.class.getDeclaredMethods()) {
            if (Modifier.isPublic(method.getModifiers())) {
                CHECKS.due(method.getName() + " is named", named.contains(method.getName()), true);
            }
        }
    }
}
