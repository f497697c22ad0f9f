import java.io.IOException;
import java.lang.reflect.Method;
import java.lang.reflect.Modifier;
import java.nio.file.Files;
import java.nio.file.Path;
import java.util.Arrays;
import java.util.HashSet;
import java.util.Set;
import java.util.regex.Matcher;
import java.util.regex.Pattern;

/** The example of README.md, told and called line by line: each call answers the number that stands behind it. */
public final class ReadmeTest {
  private static final Pattern EXAMPLE = Pattern.compile("(?s)```java\n(.*?)```");
  private static final Pattern TOLD = Pattern.compile("String text = \"([^\"]*)\";");
  private static final Pattern CALL = Pattern.compile("(?m)^alley\\.(\\w+)\\(([-0-9, ]*)\\); *// (-?[0-9]+)(:.*)?$");

  public static void main(String[] args) throws IOException, ReflectiveOperationException {
    String example = first(EXAMPLE, Files.readString(Path.of("README.md")));
    LightAsFarAsThePump alley = new LightAsFarAsThePump();
    Due.letters(alley, first(TOLD, example));
    Set<String> called = new HashSet<>(Set.of("letter"));
    int calls = 0;
    for (Matcher m = CALL.matcher(example); m.find(); calls++) {
      called.add(m.group(1));
      Due.is("README.md " + m.group(), answer(alley, m.group(1), m.group(2)), Long.parseLong(m.group(3)));
    }
    // A line that the pattern passes over would go untried.
    Due.is("calls told with an answer", calls, example.lines().filter(line -> line.startsWith("alley.")).count());
    for (Method m : LightAsFarAsThePump.class.getDeclaredMethods())
      Due.holds("README.md shows " + m.getName(), !Modifier.isPublic(m.getModifiers()) || called.contains(m.getName()));
    Due.end("ReadmeTest");
  }

  private static String first(Pattern pattern, String text) {
    Matcher m = pattern.matcher(text);
    if (!m.find()) throw new IllegalStateException("README.md has no " + pattern);
    return m.group(1);
  }

  private static int answer(LightAsFarAsThePump alley, String name, String numbers) throws ReflectiveOperationException {
    Object[] told = numbers.isEmpty() ? new Object[0]
      : Arrays.stream(numbers.split(", *")).map(Integer::valueOf).toArray();
    Class<?>[] types = new Class<?>[told.length];
    Arrays.fill(types, int.class);
    return (int) LightAsFarAsThePump.class.getMethod(name, types).invoke(alley, told);
  }
}
