import java.io.IOException;
import java.lang.reflect.Method;
import java.lang.reflect.Modifier;
import java.nio.file.Files;
import java.nio.file.Path;
import java.util.List;
import java.util.regex.Matcher;
import java.util.regex.Pattern;
import java.util.stream.Collectors;
import java.util.stream.Stream;

/** README.md: its examples answer as it says, and it names every call, constant and test. */
public final class ReadmeTest {
  private static final Pattern TEXT =
      Pattern.compile("for \\(char c : \"([^\"]*)\"\\.toCharArray\\(\\)\\) x\\.write\\(c\\);");
  private static final Pattern CALL =
      Pattern.compile("x\\.(\\w+)\\(([^)]*)\\);\\s*// (-?\\d+|[A-Z]+)\\b.*");
  private static final Check CHECK = new Check();

  public static void main(String[] args) throws Exception {
    List<String> lines = Files.readAllLines(Path.of("README.md"));
    examples(lines);
    names(String.join("\n", lines));
    CHECK.end();
  }

  private static void examples(List<String> lines) throws Exception {
    ParishRaffle x = null;
    boolean inside = false;
    int calls = 0;
    for (String line : lines) {
      if (line.startsWith("```")) {
        inside = line.equals("```java");
      } else if (inside && line.equals("ParishRaffle x = new ParishRaffle();")) {
        x = new ParishRaffle();
      } else if (inside) {
        calls += example(x, line);
      }
    }
    CHECK.due("README.md has examples", calls >= 30 ? 1 : 0, 1);
  }

  /** Runs one line: how many answers it told. */
  private static int example(ParishRaffle x, String line) throws Exception {
    Matcher text = TEXT.matcher(line);
    if (text.matches()) {
      Check.write(x, text.group(1));
      return 0;
    }
    Matcher call = CALL.matcher(line);
    if (!call.matches()) {
      CHECK.due("README.md: not understood: " + line, 0, 1);
      return 0;
    }
    CHECK.due("README.md: " + line, answer(x, call.group(1), call.group(2)), number(call.group(3)));
    return 1;
  }

  private static long answer(ParishRaffle x, String name, String list) throws Exception {
    String[] told = list.isEmpty() ? new String[0] : list.split(", ");
    Class<?>[] kinds = new Class<?>[told.length];
    Object[] numbers = new Object[told.length];
    for (int i = 0; i < told.length; i++) {
      kinds[i] = int.class;
      numbers[i] = told[i].startsWith("'") ? told[i].charAt(1) : Integer.parseInt(told[i]);
    }
    return ((Number) ParishRaffle.class.getMethod(name, kinds).invoke(x, numbers)).longValue();
  }

  private static long number(String word) throws Exception {
    return Character.isUpperCase(word.charAt(0))
        ? ParishRaffle.class.getField(word).getInt(null) : Long.parseLong(word);
  }

  private static void names(String page) throws IOException {
    for (Method m : ParishRaffle.class.getDeclaredMethods()) {
      if (Modifier.isPublic(m.getModifiers())) {
        String start = "| `" + m.getName() + (m.getParameterCount() == 0 ? "()` |" : "(");
        CHECK.due("README.md names " + m.getName(), page.contains(start) ? 1 : 0, 1);
      }
    }
    String[] constants = {"| `BAD` | -1 |", "| `NO` | -2 |", "| `FULL` | -3 |", "| `NONE` | -4 |"};
    for (String constant : constants) {
      CHECK.due("README.md has " + constant, page.contains(constant) ? 1 : 0, 1);
    }
    try (Stream<Path> files = Files.list(Path.of("src/test/java"))) {
      for (String name : files.map(f -> f.getFileName().toString()).collect(Collectors.toList())) {
        String test = "`" + name.replace(".java", "") + "`";
        CHECK.due("README.md names " + test, page.contains(test) ? 1 : 0, 1);
      }
    }
  }
}
