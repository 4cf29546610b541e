import java.lang.reflect.InvocationTargetException;
import java.lang.reflect.Method;
import java.util.ArrayList;
import java.util.Arrays;
import java.util.LinkedHashMap;
import java.util.List;
import java.util.Map;
import java.util.Random;

/** Long rows of drawn calls, each answered by SlotKeeper and by PlainKeeper: both must say the same. */
public final class AgainstPlainKeeperTest {
  private static final int RUNS = 200;
  private static final int CALLS = 256;

  private static final String[] NAMES = {
    "feed", "board", "fault", "count", "craft", "planned", "gap", "closed", "come", "go", "change", "part", "rule",
    "hurry", "close", "open", "loss", "day", "best", "bestAt", "ways", "worth", "plan", "byRanks", "told", "tell",
    "putIn", "trade", "around", "goOn", "done", "hole", "sorted", "undo", "say", "said"};

  private final Random random;
  private final SlotKeeper keeper = new SlotKeeper();
  private final PlainKeeper plain = new PlainKeeper();
  private final Map<String, Method> ofKeeper = new LinkedHashMap<>();
  private final Map<String, Method> ofPlain = new LinkedHashMap<>();
  private final List<String> history = new ArrayList<>();
  /** How far apart times lie, how many CRAFT are wanted: some runs are tight, some are wide. */
  private final int spread;
  private final int wanted;
  private final boolean slow;

  private AgainstPlainKeeperTest(long seed) {
    random = new Random(seed);
    spread = new int[] {12, 40, 150, 900}[random.nextInt(4)];
    slow = random.nextInt(10) == 0;
    wanted = slow ? 10 : 2 + random.nextInt(6);
    for (Method m : SlotKeeper.class.getDeclaredMethods()) ofKeeper.put(m.getName(), m);
    for (Method m : PlainKeeper.class.getDeclaredMethods()) if (ofKeeper.containsKey(m.getName())) ofPlain.put(m.getName(), m);
  }

  private static String answer(Method m, Object on, Object[] args) throws IllegalAccessException {
    try {
      return String.valueOf(m.invoke(on, args));
    } catch (InvocationTargetException e) {
      return "throws." + e.getCause().getClass().getSimpleName();
    }
  }

  private boolean same(String name, Object... args) throws IllegalAccessException {
    String got = answer(ofKeeper.get(name), keeper, args);
    String due = answer(ofPlain.get(name), plain, args);
    history.add(name + Arrays.toString(args) + " = " + got);
    if (got.equals(due)) return true;
    System.out.println("due is " + due + " at the end of:");
    for (String line : history) System.out.println("  " + line);
    return false;
  }

  private boolean odd(int oneIn) {
    return random.nextInt(oneIn) == 0;
  }

  private int number(int bound) {
    if (odd(150)) return new int[] {-1, -2, bound, bound + 1, Integer.MIN_VALUE, Integer.MAX_VALUE}[random.nextInt(6)];
    return random.nextInt(Math.max(1, bound));
  }

  private int aCraft() {
    return odd(60) ? number(12) - 1 : random.nextInt(Math.max(1, plain.count(0)));
  }

  private int ready() {
    return odd(20) ? number(1001) : plain.count(1) / 2 + random.nextInt(spread);
  }

  private int latest(int ready) {
    if (odd(20)) return number(2002);
    return Math.min(1999, ready + (odd(3) ? random.nextInt(30) : 30 + random.nextInt(400)));
  }

  private long order() {
    int n = plain.count(0);
    List<Integer> figures = new ArrayList<>();
    for (int i = 0; i < n; i++) figures.add(odd(3) ? i : plain.planned(i));
    for (int i = 0; i < n; i++) if (figures.indexOf(i) < 0 || odd(4)) {
      figures.clear();
      for (int j = 0; j < n; j++) figures.add(plain.planned(j));
      int swaps = random.nextInt(4);
      for (int j = 0; j < swaps && n > 1; j++) {
        int at = random.nextInt(n - 1);
        java.util.Collections.swap(figures, at, at + 1);
      }
      break;
    }
    long told = 0;
    for (int f : figures) told = told * 10 + f;
    if (odd(15)) told += random.nextInt(20) - 10;
    if (odd(40)) told = random.nextLong();
    return told;
  }

  private int time() {
    return odd(15) ? number(2001) : Math.min(1999, plain.count(1) + random.nextInt(1 + spread / 3));
  }

  private Object[] args(String name) {
    int n = plain.count(0);
    int ready = ready();
    switch (name) {
      case "fault": case "byRanks": case "trade": case "undo": case "say": return new Object[] {};
      case "count": return new Object[] {number(17)};
      case "craft": return new Object[] {aCraft(), number(14)};
      case "planned": return new Object[] {number(n + 1)};
      case "gap": return new Object[] {number(8), number(8)};
      case "closed": return new Object[] {number(5), odd(2)};
      case "come": return new Object[] {number(8), ready, latest(ready), number(21)};
      case "go": case "putIn": return new Object[] {aCraft()};
      case "change": {
        int what = number(3);
        int craft = aCraft();
        return new Object[] {craft, what, what == 0 ? ready : what == 1 ? latest(ready) : number(21)};
      }
      case "part": return new Object[] {number(8), number(8), odd(8) ? number(100) : random.nextInt(9)};
      case "rule": {
        boolean freeze = odd(2);
        return new Object[] {freeze, freeze ? odd(3) ? number(100) : random.nextInt(15) : number(4)};
      }
      case "hurry": return new Object[] {aCraft(), number(2)};
      case "close": {
        int from = time();
        return new Object[] {from, odd(20) ? number(2001) : from + 1 + random.nextInt(15)};
      }
      case "open": return new Object[] {number(5)};
      case "loss": case "around": return new Object[] {aCraft(), odd(10) ? number(101) : 1 + random.nextInt(30)};
      case "day": return new Object[] {random.nextInt(), odd(30) ? number(42) : 1 + random.nextInt(slow ? 40 : 12), number(4), number(3)};
      case "best": case "plan": return new Object[] {number(3)};
      case "bestAt": return new Object[] {number(3), number(n + 1)};
      case "ways": return new Object[] {odd(2)};
      case "worth": return new Object[] {number(4)};
      case "told": return new Object[] {order(), number(4)};
      case "tell": return new Object[] {order()};
      case "goOn": return new Object[] {time()};
      case "done": return new Object[] {number(plain.count(5) + 1), number(3)};
      case "hole": return new Object[] {number(8), odd(20) ? number(2001) : random.nextInt(Math.min(2000, plain.count(1) + 2 * spread))};
      case "sorted": return new Object[] {number(9) - 1, number(3)};
      case "said": return new Object[] {number(60)};
      default: throw new IllegalStateException(name);
    }
  }

  private String word() {
    String[] words = {"gap", "craft", "closed", "shift", "freeze", "lands", "leaves", "x", ";", "7", "99999999999999999999", "A", "\t"};
    return words[random.nextInt(words.length)];
  }

  private String line() {
    String[] sorts = {"lands ", "leaves ", "lands", "leaves\n"};
    String sort = sorts[random.nextInt(4)] + number(4);
    int ready = ready();
    switch (random.nextInt(6)) {
      case 0: return "gap " + sort + " " + sorts[random.nextInt(4)] + number(4) + " " + number(12) + ";";
      case 1: return "closed " + ready + " " + (ready + random.nextInt(9)) + " ;\n";
      case 2: return "shift " + number(4) + "; ";
      case 3: return "freeze" + number(40) + ";";
      default: return "craft " + sort + " " + ready + " " + latest(ready) + " " + number(21) + ";";
    }
  }

  private String text() {
    StringBuilder text = new StringBuilder();
    int lines = random.nextInt(odd(4) ? 24 : 8);
    for (int i = 0; i < lines; i++) text.append(line());
    int slips = odd(2) ? 0 : random.nextInt(3);
    for (int i = 0; i < slips; i++) {
      int at = random.nextInt(text.length() + 1);
      if (odd(2)) text.insert(at, odd(2) ? " " + word() + " " : word());
      else if (at < text.length()) text.deleteCharAt(at);
    }
    return text.length() > 500 ? text.substring(0, 500) : text.toString();
  }

  private boolean feedAndRead() throws IllegalAccessException {
    String text = text();
    int length = text.length();
    StringBuilder padded = new StringBuilder(text);
    while (padded.length() % 20 != 0) padded.append((char) random.nextInt(256));
    for (int at = 0; at < padded.length(); at += 20) {
      Object[] five = new Object[5];
      for (int i = 0; i < 5; i++) {
        int x = 0;
        for (int j = 0; j < 4; j++) x = x << 8 | padded.charAt(at + 4 * i + j);
        five[i] = x;
      }
      if (!same("feed", five)) return false;
    }
    if (odd(10) && !same("board", number(600) - 20)) return false;
    return same("board", Math.min(length, plain.count(8))) && same("fault");
  }

  /** All that can be seen of the BOARD without much work. */
  private boolean looksSame() throws IllegalAccessException {
    for (int what = 0; what < 17; what++) if (!same("count", what)) return false;
    int n = plain.count(0);
    for (int craft = 0; craft < n; craft++)
      for (int what = 0; what < 13; what++) if (!same("craft", craft, what)) return false;
    for (int i = 0; i < plain.count(5); i++)
      for (int what = 0; what < 3; what++) if (!same("done", i, what)) return false;
    return true;
  }

  private boolean run() throws IllegalAccessException {
    for (int call = 0; call < CALLS; call++) {
      boolean ok;
      if (odd(40)) ok = feedAndRead();
      else if (plain.count(0) < wanted && odd(3)) ok = same("come", args("come"));
      else {
        String name = NAMES[2 + random.nextInt(NAMES.length - 2)];
        boolean dear = name.equals("day") || name.equals("loss") || name.equals("worth");
        if (plain.count(0) > wanted && name.equals("come") || dear && plain.count(0) > 7 && !odd(10)) name = "count";
        if (name.equals("undo") && odd(2)) name = "putIn";
        ok = same(name, args(name));
      }
      if (!ok) return false;
      if (call % 50 == 49 && !looksSame()) return false;
    }
    return true;
  }

  /** Whole DAYS with so wide GAPS that 10 are there at once, on BOARDS with CLOSED spans and another FREEZE. */
  private boolean daysAlike() throws IllegalAccessException {
    int widest = 5 + random.nextInt(40);
    for (int i = 0; i < 64; i++) if (!same("part", i / 8, i % 8, random.nextInt(widest))) return false;
    if (!same("rule", true, random.nextInt(30)) || !same("rule", false, random.nextInt(3))) return false;
    for (int i = random.nextInt(4); i > 0; i--) {
      int from = random.nextInt(400);
      if (!same("close", from, from + 1 + random.nextInt(20))) return false;
    }
    int seed = random.nextInt();
    for (int way = 0; way < 4; way++) if (!same("day", seed, 15 + random.nextInt(26), way, random.nextInt(3))) return false;
    return true;
  }

  public static void main(String[] args) throws Exception {
    int runs = args.length > 0 ? Integer.parseInt(args[0]) : RUNS;
    long first = args.length > 1 ? Long.parseLong(args[1]) : 1;
    int wrong = 0;
    Map<String, int[]> seen = new LinkedHashMap<>();
    for (long seed = first; seed < first + runs && wrong < 3; seed++) {
      AgainstPlainKeeperTest test = new AgainstPlainKeeperTest(seed);
      if (!test.run() || seed % 8 == 0 && !new AgainstPlainKeeperTest(seed).daysAlike()) {
        System.out.println("run " + seed + " differs");
        wrong++;
      }
      for (String line : test.history) {
        int[] counts = seen.computeIfAbsent(line.substring(0, line.indexOf('[')), k -> new int[3]);
        counts[0]++;
        if (line.contains("throws.")) counts[1]++;
        if (line.endsWith("= -1")) counts[2]++;
      }
    }
    if (args.length > 0) seen.forEach((name, c) -> System.out.println(name + ": " + c[0] + " calls, " + c[1] + " threw, " + c[2] + " NONE"));
    System.out.println(wrong == 0 ? runs + " runs of drawn calls answered alike" : wrong + " runs differ");
    if (wrong != 0) System.exit(1);
  }
}
