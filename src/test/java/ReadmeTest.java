import java.io.IOException;
import java.lang.reflect.Method;
import java.lang.reflect.Modifier;
import java.nio.file.Files;
import java.nio.file.Path;
import java.util.ArrayList;
import java.util.List;
import java.util.regex.Matcher;
import java.util.regex.Pattern;

/** What README.md says: each call in its examples answers as told there, and its table has every call as it is. */
public final class ReadmeTest {
  private static final Check CHECK = new Check();
  private static final Pattern EXAMPLE = Pattern.compile("```java\n(.*?)```", Pattern.DOTALL);
  private static final Pattern CALL = Pattern.compile("street\\.(\\w+)\\(([-0-9, ]*)\\); +// (-?\\d+): .+");
  private static final Pattern TYPING = Pattern.compile("for \\(char c : \"(.*)\"\\.toCharArray\\(\\)\\) street\\.type\\(c\\);");
  private static final Pattern TOLD = Pattern.compile("`(\\w+)\\(([\\w, ]*)\\)`");

  public static void main(String[] args) throws ReflectiveOperationException, IOException {
    String readme = Files.readString(Path.of("README.md"));
    int examples = 0;
    Matcher m = EXAMPLE.matcher(readme);
    while (m.find()) {
      example(m.group(1).split("\n"));
      examples++;
    }
    CHECK.holds("there are examples", examples > 0);
    table(readme.lines().filter(l -> l.startsWith("| `")).toList());
    CHECK.end();
  }

  private static void example(String[] lines) throws ReflectiveOperationException {
    CHECK.holds("it begins with a new one: " + lines[0], lines[0].equals("AnvilStreet street = new AnvilStreet();"));
    AnvilStreet street = new AnvilStreet();
    for (int i = 1; i < lines.length; i++) {
      Matcher call = CALL.matcher(lines[i]);
      Matcher typing = TYPING.matcher(lines[i]);
      if (call.matches()) {
        CHECK.due(lines[i], answer(street, call.group(1), call.group(2)), Long.parseLong(call.group(3)));
      } else if (typing.matches()) {
        for (char c : typing.group(1).toCharArray()) street.type(c);
      } else {
        CHECK.holds("a line of an example: " + lines[i], false);
      }
    }
  }

  private static long answer(AnvilStreet street, String name, String told) throws ReflectiveOperationException {
    String[] figures = told.isBlank() ? new String[0] : told.split(", *");
    Object[] numbers = new Object[figures.length];
    Class<?>[] types = new Class<?>[figures.length];
    for (int i = 0; i < figures.length; i++) {
      numbers[i] = Integer.parseInt(figures[i]);
      types[i] = int.class;
    }
    return ((Number) AnvilStreet.class.getMethod(name, types).invoke(street, numbers)).longValue();
  }

  private static void table(List<String> rows) {
    List<String> told = new ArrayList<>();
    for (String row : rows) {
      Matcher m = TOLD.matcher(row);
      while (m.find()) told.add(m.group(1) + " " + (m.group(2).isEmpty() ? 0 : m.group(2).split(",").length));
    }
    List<String> due = new ArrayList<>();
    for (Method m : AnvilStreet.class.getDeclaredMethods()) {
      if (Modifier.isPublic(m.getModifiers())) due.add(m.getName() + " " + m.getParameterCount());
    }
    told.sort(null);
    due.sort(null);
    CHECK.holds("the table has every call once: " + told, told.equals(due));
  }
}
