import java.lang.reflect.InvocationTargetException;
import java.lang.reflect.Method;
import java.nio.file.Files;
import java.nio.file.Path;
import java.util.List;
import java.util.Set;
import java.util.TreeSet;
import java.util.regex.Matcher;
import java.util.regex.Pattern;

/** The examples of README.md: each call of its java blocks must answer what stands behind it; its text is a BOARD. */
public final class ReadmeTest {
  private static final Pattern CALL =
      Pattern.compile("keeper\\.(\\w+)\\((.*)\\); +// (-?\\d+|true|false|throws \\w+): .*");
  private static final String MAKING = "SlotKeeper keeper = new SlotKeeper();";

  private static int wrong = 0;
  private static int calls = 0;
  private static SlotKeeper keeper = new SlotKeeper();

  private static void must(boolean ok, String what) {
    if (ok) return;
    wrong++;
    System.out.println(what);
  }

  private static Method method(String name) {
    for (Method m : SlotKeeper.class.getMethods()) if (m.getName().equals(name)) return m;
    throw new IllegalStateException("the face has no " + name);
  }

  private static Object argument(String text, Class<?> type) {
    if (type == boolean.class) return Boolean.valueOf(text);
    if (type == long.class) return Long.valueOf(text.replace("L", ""));
    return Integer.valueOf(text);
  }

  private static String answer(String name, String arguments) throws IllegalAccessException {
    Method m = method(name);
    Class<?>[] types = m.getParameterTypes();
    String[] texts = types.length == 0 ? new String[0] : arguments.split(", *");
    Object[] values = new Object[types.length];
    for (int i = 0; i < types.length; i++) values[i] = argument(texts[i], types[i]);
    try {
      return String.valueOf(m.invoke(keeper, values));
    } catch (InvocationTargetException e) {
      return "throws " + e.getCause().getClass().getSimpleName();
    }
  }

  private static void javaLine(String line) throws IllegalAccessException {
    if (line.equals(MAKING)) {
      keeper = new SlotKeeper();
      return;
    }
    Matcher call = CALL.matcher(line);
    must(call.matches(), "README.md has a line that is no call with its answer: " + line);
    if (!call.matches()) return;
    calls++;
    String got = answer(call.group(1), call.group(2));
    must(got.equals(call.group(3)), "README.md: " + line + " answered " + got);
  }

  private static void textIsABoard(String text) {
    SlotKeeper k = new SlotKeeper();
    StringBuilder padded = new StringBuilder(text);
    while (padded.length() % 20 != 0) padded.append(' ');
    for (int at = 0; at < padded.length(); at += 20) {
      int[] five = new int[5];
      for (int i = 0; i < 20; i++) five[i / 4] = five[i / 4] << 8 | padded.charAt(at + i);
      k.feed(five[0], five[1], five[2], five[3], five[4]);
    }
    must(k.board(text.length()) == 0, "README.md's text has a FAULT at " + k.fault());
    must(k.count(0) == 3 && k.count(6) == 1 && k.count(2) == 1 && k.count(3) == 0 && k.gap(2, 1) == 5, "README.md's text is another BOARD");
  }

  private static void allCallsAreTold(String whole) {
    Set<String> missing = new TreeSet<>();
    for (Method m : SlotKeeper.class.getDeclaredMethods())
      if (java.lang.reflect.Modifier.isPublic(m.getModifiers()) && !whole.contains("`" + m.getName() + "`")) missing.add(m.getName());
    must(missing.isEmpty(), "README.md's table has no " + missing);
  }

  public static void main(String[] args) throws Exception {
    List<String> lines = Files.readAllLines(Path.of("README.md"));
    String block = "";
    StringBuilder text = new StringBuilder();
    for (String line : lines) {
      if (line.startsWith("```")) block = line.substring(3);
      else if (block.equals("java")) javaLine(line);
      else if (block.equals("text")) text.append(line).append('\n');
    }
    textIsABoard(text.toString());
    allCallsAreTold(String.join("\n", lines));
    must(calls >= 20, "README.md has too few examples");
    System.out.println(calls + " calls of README.md, " + wrong + " wrong");
    if (wrong != 0) System.exit(1);
  }
}
