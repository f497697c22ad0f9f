import java.io.IOException;
import java.lang.reflect.Constructor;
import java.lang.reflect.Field;
import java.lang.reflect.Method;
import java.lang.reflect.Modifier;
import java.nio.file.Files;
import java.nio.file.Path;
import java.util.Arrays;
import java.util.TreeSet;
import java.util.regex.Matcher;
import java.util.regex.Pattern;
import java.util.stream.Collectors;

/** The public face is the document's and no more; the source keeps to those rules of LANGUAGE.md that a text can tell. */
public final class FaceTest {
  private static final String[] FACE = {"best(int,int)", "bestHour(int)", "bestPump()", "bestSecond()", "clear()", "count(int)",
    "goer(int,int)", "hour(int,int)", "image()", "judge()", "lamp(int)", "leastOil()", "letter(int)", "lots(int,int,int)",
    "midwife(int)", "near(int,int)", "net(int)", "night()", "of(int,int)", "on()", "payments()", "row(int)", "second(int)",
    "set(int,int)", "sums(int)", "watch()", "whoHad(int,int)", "without(int)"};

  public static void main(String[] args) throws IOException {
    face();
    inside();
    source();
    Due.end("FaceTest");
  }

  private static void face() {
    Class<?> c = LightAsFarAsThePump.class;
    Due.holds("public and final", Modifier.isPublic(c.getModifiers()) && Modifier.isFinal(c.getModifiers()));
    Due.holds("no package", c.getPackageName().isEmpty());
    TreeSet<String> found = new TreeSet<>();
    for (Method m : c.getDeclaredMethods()) {
      if (Modifier.isPrivate(m.getModifiers())) {
        Due.holds(m.getName() + " is no name of the face", Arrays.stream(FACE).noneMatch(f -> f.startsWith(m.getName() + "(")));
        continue;
      }
      Due.holds(m.getName() + " is public", Modifier.isPublic(m.getModifiers()) && !Modifier.isStatic(m.getModifiers()));
      Due.holds(m.getName() + " answers an int", m.getReturnType() == int.class);
      found.add(m.getName() + "(" + Arrays.stream(m.getParameterTypes()).map(Class::getName).collect(Collectors.joining(",")) + ")");
    }
    Due.holds("the face is " + found, found.equals(new TreeSet<>(Arrays.asList(FACE))));
    Constructor<?>[] made = c.getDeclaredConstructors();
    Due.is("constructors", made.length, 1);
    Due.holds("public, without parameters", Modifier.isPublic(made[0].getModifiers()) && made[0].getParameterCount() == 0);
    for (Field f : c.getDeclaredFields()) Due.holds(f.getName() + " is private", Modifier.isPrivate(f.getModifiers()));
  }

  private static void inside() {
    Class<?>[] classes = LightAsFarAsThePump.class.getDeclaredClasses();
    Due.holds("at most twelve classes", classes.length < 12);
    for (Class<?> c : classes) {
      int m = c.getModifiers();
      Due.holds(c + " is static", Modifier.isStatic(m) && !Modifier.isPublic(m) && !Modifier.isProtected(m));
      long own = Arrays.stream(c.getDeclaredFields()).filter(f -> !Modifier.isStatic(f.getModifiers())).count();
      Due.holds(c + " has some twenty fields at most", own <= 20);
      for (Field f : c.getDeclaredFields())
        Due.holds(f + " is final if static", !Modifier.isStatic(f.getModifiers()) || Modifier.isFinal(f.getModifiers()));
      for (Method method : c.getDeclaredMethods()) Due.holds(method + " takes seven at most", method.getParameterCount() <= 7);
    }
  }

  private static void source() throws IOException {
    String code = Files.readString(Path.of("src/main/java/LightAsFarAsThePump.java"))
      .replaceAll("(?s)/\\*.*?\\*/", "").replaceAll("//[^\n]*", "");
    String[] not = {"throw", "try", "catch", "synchronized", "assert", "import", "package", "Exact", "->", "::", "static \\{", "null",
      "double", "float", "String", "Random", "System", "Thread"};
    for (String word : not) Due.holds("no " + word, !Pattern.compile(word).matcher(code).find());
    // Nothing is made but with the object; no index is used but where Rows looks at it.
    for (String line : code.split("\n")) {
      Due.holds("made in a call: " + line.trim(), !line.contains("new ") || line.matches(" +(private )?final .* = new .*;"));
      boolean divides = Pattern.compile("[^/*][/%][^/*=]").matcher(line).find();
      Due.holds("a divisor that may be 0: " + line.trim(), !divides || line.matches(".*(/ 2;|/ 256 % HOURS\\);).*"));
    }
    Matcher index = Pattern.compile("(\\w+)\\[(\\w+)\\]").matcher(code);
    int inRows = 0;
    int rows = code.indexOf("class Rows");
    int alley = code.indexOf("class Alley");
    while (index.find()) {
      if (index.group(1).equals("int")) continue;
      Due.holds("index outside of Rows: " + index.group(), index.start() > rows && index.start() < alley);
      inRows++;
    }
    Due.is("indexes in Rows", inRows, 4);
    methodsAreShort(code);
  }

  private static void methodsAreShort(String code) {
    String[] lines = code.split("\n");
    Pattern head = Pattern.compile("( {4}| {8})(?!static final class)[A-Za-z].*\\) \\{");
    int methods = 0;
    for (int i = 0; i < lines.length; i++) {
      Matcher m = head.matcher(lines[i]);
      if (!m.matches()) continue;
      int end = i;
      while (end < lines.length && !lines[end].equals(m.group(1) + "}")) end++;
      Due.holds("some sixty lines at most: " + lines[i].trim(), end - i <= 60);
      methods++;
    }
    Due.holds("methods found: " + methods, methods > 60);
  }
}
