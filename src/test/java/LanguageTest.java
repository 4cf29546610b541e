import java.lang.reflect.Constructor;
import java.lang.reflect.Field;
import java.lang.reflect.Method;
import java.lang.reflect.Modifier;
import java.nio.charset.StandardCharsets;
import java.nio.file.Files;
import java.nio.file.Path;
import java.util.Arrays;
import java.util.List;
import java.util.Set;
import java.util.TreeSet;

/** What of LANGUAGE.md can be seen in the class and its text without reading it: rules 1, 2, 5, 6, 8 to 12. */
public final class LanguageTest {
  private static final String[] FACE = {
    "int feed(int,int,int,int,int)", "int board(int) IAE", "int fault()", "int count(int) NSE", "int craft(int,int) NSE",
    "int planned(int) NSE", "int gap(int,int) NSE", "int closed(int,boolean) NSE", "int come(int,int,int,int) IAE",
    "int go(int) NSE", "int change(int,int,int) NSE IAE", "int part(int,int,int) NSE IAE", "int rule(boolean,int) IAE",
    "int hurry(int,int) NSE IAE", "int close(int,int) IAE", "int open(int) NSE", "int loss(int,int) NSE IAE",
    "int day(int,int,int,int) IAE NSE", "int best(int) IAE", "int bestAt(int,int) IAE NSE", "int ways(boolean)",
    "int worth(int) IAE", "int plan(int) IAE", "int byRanks()", "int told(long,int) IAE NSE", "boolean tell(long) IAE",
    "int putIn(int) NSE", "int trade()", "int around(int,int) NSE IAE", "int goOn(int) IAE", "int done(int,int) NSE",
    "int hole(int,int) NSE IAE", "int sorted(int,int) NSE", "int undo()", "int say()", "int said(int)"};

  private static int wrong = 0;

  private static void must(boolean ok, String what) {
    if (ok) return;
    wrong++;
    System.out.println("not so: " + what);
  }

  private static String form(Method m) {
    StringBuilder s = new StringBuilder(m.getReturnType() + " " + m.getName() + "(");
    for (Class<?> p : m.getParameterTypes()) s.append(s.charAt(s.length() - 1) == '(' ? "" : ",").append(p);
    s.append(')');
    for (Class<?> e : m.getExceptionTypes()) s.append(e == IllegalArgumentException.class ? " IAE" : " NSE");
    return s.toString();
  }

  private static void face() {
    Set<String> seen = new TreeSet<>();
    for (Method m : SlotKeeper.class.getDeclaredMethods()) if (!Modifier.isPrivate(m.getModifiers())) seen.add(form(m));
    must(seen.equals(new TreeSet<>(Arrays.asList(FACE))), "the face has the document's methods and no others: " + seen);
    must(Modifier.isFinal(SlotKeeper.class.getModifiers()) && Modifier.isPublic(SlotKeeper.class.getModifiers()), "public, final");
    Constructor<?>[] made = SlotKeeper.class.getDeclaredConstructors();
    must(made.length == 1 && Modifier.isPublic(made[0].getModifiers()) && made[0].getParameterCount() == 0, "one constructor");
    for (Field f : SlotKeeper.class.getDeclaredFields()) must(Modifier.isPrivate(f.getModifiers()) || f.getName().equals("NONE"), f + " is private");
  }

  private static void insideOf(Class<?> c, Set<String> names) {
    int fields = 0;
    for (Field f : c.getDeclaredFields()) {
      if (!Modifier.isStatic(f.getModifiers())) fields++;
      else must(Modifier.isFinal(f.getModifiers()), f + " is final");
    }
    must(fields <= 20, c + " has at most twenty fields");
    for (Method m : c.getDeclaredMethods()) {
      must(m.getParameterCount() <= 7, m + " takes at most seven parameters");
      must(c == SlotKeeper.class && !Modifier.isPrivate(m.getModifiers()) || !names.contains(m.getName()), m + " bears no name of the face");
      must(!Set.of("equals", "hashCode", "toString", "finalize").contains(m.getName()), m + " is none of Object's");
    }
  }

  private static void classes() {
    Set<String> names = new TreeSet<>();
    for (Method m : SlotKeeper.class.getDeclaredMethods()) if (Modifier.isPublic(m.getModifiers())) names.add(m.getName());
    Class<?>[] inside = SlotKeeper.class.getDeclaredClasses();
    must(inside.length + 1 <= 12, "at most twelve classes");
    insideOf(SlotKeeper.class, names);
    for (Class<?> c : inside) {
      must(Modifier.isStatic(c.getModifiers()) && !Modifier.isPublic(c.getModifiers()) && !Modifier.isProtected(c.getModifiers()), c + " is static and not seen");
      insideOf(c, names);
    }
  }

  private static void source() throws Exception {
    byte[] bytes = Files.readAllBytes(Path.of("src/main/java/SlotKeeper.java"));
    for (byte b : bytes) must(b == '\n' || b >= 32 && b < 127, "the source has plain signs alone");
    String text = new String(bytes, StandardCharsets.US_ASCII);
    String[] banned = {"->", "::", "finally", "synchronized", "assert", "catch", "try {", "volatile", "Exact(", "native",
      "strictfp", "static {", "new Object", "System.out", "nanoTime", "Random", "Thread", "double", "float", "instanceof"};
    for (String word : banned) must(!text.contains(word), "no " + word);
    List<String> lines = Arrays.asList(text.split("\n"));
    int began = 0;
    for (int i = 0; i < lines.size(); i++) {
      String line = lines.get(i);
      must(line.length() <= 120, "line " + (i + 1) + " is short");
      if (line.startsWith("import ")) must(line.matches("import java\\.util\\.(Arrays|NoSuchElementException);"), line + " may be used");
      if (line.contains("throw new ")) must(line.contains("IllegalArgumentException") || line.contains("NoSuchElementException"), line + " is of the document");
      if (line.matches("(    |        )(\\w.*)\\) ?(throws .*)?\\{")) began = i;
      if (line.matches("(    |        )\\}")) must(i - began <= 60, "the method that ends in line " + (i + 1) + " is short");
    }
  }

  /** A run's calls make no objects: all rows are made with the keeper. */
  private static void room() {
    com.sun.management.ThreadMXBean bean = (com.sun.management.ThreadMXBean) java.lang.management.ManagementFactory.getThreadMXBean();
    long thread = Thread.currentThread().getId();
    dearCalls(new SlotKeeper());
    long start = bean.getThreadAllocatedBytes(thread);
    SlotKeeper k = new SlotKeeper();
    long made = bean.getThreadAllocatedBytes(thread);
    dearCalls(k);
    long called = bean.getThreadAllocatedBytes(thread);
    must(made - start < 100_000, "a new object takes little: " + (made - start));
    must(called - made < 20_000, "the calls take nothing: " + (called - made));
  }

  private static void dearCalls(SlotKeeper k) {
    for (int i = 0; i < 10; i++) k.come(i % 8, i, 1999, i);
    for (int i = 0; i < 50; i++) {
      k.day(i, 40, 1, 0);
      k.loss(0, 5);
      k.best(i % 3);
      k.craft(3, 13);
      k.hole(5, 0);
      k.told(123456789L, 0);
      k.ways(true);
      k.say();
      k.part(1, 1, i);
      k.feed(i, i, i, i, i);
    }
  }

  public static void main(String[] args) throws Exception {
    face();
    classes();
    source();
    room();
    System.out.println(wrong == 0 ? "the language's rules that are looked at are kept" : wrong + " rules are not kept");
    if (wrong != 0) System.exit(1);
  }
}
