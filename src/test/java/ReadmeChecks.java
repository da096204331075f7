import java.lang.reflect.Method;
import java.nio.file.Files;
import java.nio.file.Path;
import java.util.HashMap;
import java.util.Map;
import java.util.regex.Matcher;
import java.util.regex.Pattern;

/** The calls that README.md shows, one a line: each must answer the number behind its //. */
public final class ReadmeChecks {
  private static final Pattern CALL = Pattern.compile("(?:int (\\w+) = )?x\\.(\\w+)\\((.*)\\); *// (-?\\d+).*");
  private static final int CALLS_SHOWN = 20;

  private static int number(String text, Map<String, Integer> named) {
    if (text.startsWith("'")) return text.charAt(1);
    return named.containsKey(text) ? named.get(text) : Integer.parseInt(text);
  }

  private static long call(WordMonoids x, String name, String arguments, Map<String, Integer> named) throws Exception {
    String[] texts = arguments.isEmpty() ? new String[0] : arguments.split(", ");
    Object[] given = new Object[texts.length];
    for (int k = 0; k < texts.length; k++) given[k] = number(texts[k], named);
    for (Method m : WordMonoids.class.getMethods()) {
      if (m.getName().equals(name)) return ((Number) m.invoke(x, given)).longValue();
    }
    throw new IllegalArgumentException("no such call: " + name);
  }

  public static void main(String[] args) throws Exception {
    WordMonoids x = new WordMonoids();
    Map<String, Integer> named = new HashMap<>();
    int shown = 0;
    int failures = 0;
    for (String line : Files.readString(Path.of("README.md")).split("\n")) {
      Matcher row = CALL.matcher(line);
      if (!row.matches()) {
        if (line.contains("x.") && line.endsWith(";")) {
          failures++;
          System.out.println("not read: " + line);
        }
        continue;
      }
      shown++;
      long got = call(x, row.group(2), row.group(3), named);
      if (row.group(1) != null) named.put(row.group(1), (int) got);
      if (got != Long.parseLong(row.group(4))) {
        failures++;
        System.out.println("answered " + got + ": " + line);
      }
    }
    if (shown < CALLS_SHOWN) {
      failures++;
      System.out.println("README.md shows " + shown + " calls alone");
    }
    System.out.println(failures == 0 ? "all " + shown + " calls of README.md answer as it says" : failures + " lines are wrong");
    if (failures != 0) {
      System.exit(1);
    }
  }
}
