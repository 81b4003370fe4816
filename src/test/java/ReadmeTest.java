import java.io.IOException;
import java.lang.reflect.Method;
import java.nio.file.Files;
import java.nio.file.Path;
import java.util.Arrays;
import java.util.Set;
import java.util.TreeSet;
import java.util.regex.Matcher;
import java.util.regex.Pattern;

/** README.md shows calls with their answers, and names every call: both must be true. */
public final class ReadmeTest {
  /** A row such as: x.plank(0, 3);  // -1: left is down. */
  private static final Pattern CALL = Pattern.compile("x\\.(\\w+)\\(([^)]*)\\); +// (-?\\d+).*");

  public static void main(String[] args) throws IOException, ReflectiveOperationException {
    String readme = Files.readString(Path.of("README.md"));
    Matcher block = Pattern.compile("```java\n(.*?)```", Pattern.DOTALL).matcher(readme);
    Due.holds("README.md shows a run of calls", block.find());
    SeesawPark x = new SeesawPark();
    for (String row : block.group(1).split("\n")) {
      if (row.equals("SeesawPark x = new SeesawPark();")) continue;
      Matcher call = CALL.matcher(row);
      boolean told = call.matches();
      Due.holds("README.md tells an answer: " + row, told);
      if (told) Due.is("README.md: " + row, answer(x, call.group(1), call.group(2)), Long.parseLong(call.group(3)));
    }
    Set<String> names = new TreeSet<>();
    for (Method m : SeesawPark.class.getMethods()) if (m.getDeclaringClass() == SeesawPark.class) names.add(m.getName());
    for (String name : names) Due.holds("README.md names " + name, readme.contains("`" + name + "`"));
    Due.end();
  }

  private static long answer(SeesawPark x, String name, String numbers) throws ReflectiveOperationException {
    String[] given = numbers.isEmpty() ? new String[0] : numbers.split(", ");
    for (Method m : SeesawPark.class.getMethods()) {
      if (!m.getName().equals(name) || m.getParameterCount() != given.length) continue;
      Object[] values = new Object[given.length];
      for (int i = 0; i < given.length; i++) {
        long v = Long.decode(given[i].replace("L", ""));
        if (m.getParameterTypes()[i] == long.class) values[i] = v;
        else values[i] = (int) v;
      }
      return ((Number) m.invoke(x, values)).longValue();
    }
    throw new IllegalStateException("no call " + name + " of " + Arrays.toString(given));
  }
}
