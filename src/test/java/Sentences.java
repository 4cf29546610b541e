import java.lang.reflect.InvocationTargetException;
import java.lang.reflect.Method;
import java.util.Arrays;
import java.util.Comparator;
import java.util.HashMap;
import java.util.Map;
import java.util.NoSuchElementException;

/**
 * What the tests of single sentences have in common. A test is a static method p<promise>_<what the sentence says>;
 * all of a class are run, and each promise that the class is about must have one. No object is asked more than 512
 * times: what can be seen of one is looked at on several that are made alike.
 */
class Sentences {
  interface Maker {
    SlotKeeper make();
  }

  interface Call {
    long on(SlotKeeper k);
  }

  private static String running = "";
  private static int wrong = 0;
  private static int checks = 0;
  private static final Map<Maker, String> LOOKS = new HashMap<>();

  static void runAll(Class<?> tests, int firstPromise, int lastPromise) throws IllegalAccessException {
    Method[] methods = tests.getDeclaredMethods();
    Arrays.sort(methods, Comparator.comparing(Method::getName));
    int[] ofPromise = new int[38];
    int run = 0;
    for (Method m : methods) {
      if (!m.getName().matches("p\\d\\d_.*")) continue;
      ofPromise[Integer.parseInt(m.getName().substring(1, 3))]++;
      running = m.getName();
      run++;
      try {
        m.invoke(null);
      } catch (InvocationTargetException e) {
        fail("it threw " + e.getCause());
      }
    }
    for (int p = firstPromise; p <= lastPromise; p++) {
      running = "promise " + p;
      check(ofPromise[p] > 0, "it has no test");
    }
    System.out.println(run + " sentences of promises " + firstPromise + " to " + lastPromise + ", " + checks + " checks, " + wrong + " wrong");
    if (wrong != 0) System.exit(1);
  }

  private static void fail(String what) {
    wrong++;
    System.out.println(running + ": " + what);
  }

  static void check(boolean ok, String what) {
    checks++;
    if (!ok) fail(what);
  }

  static void due(String call, long got, long want) {
    check(got == want, call + " answered " + got + ", due is " + want);
  }

  static void same(String what, String got, String want) {
    check(got.equals(want), what + " is " + got + ", due is " + want);
  }

  static void nse(String call, SlotKeeper k, Call c) {
    thrown(call, k, c, NoSuchElementException.class);
  }

  static void iae(String call, SlotKeeper k, Call c) {
    thrown(call, k, c, IllegalArgumentException.class);
  }

  private static void thrown(String call, SlotKeeper k, Call c, Class<?> want) {
    String got;
    try {
      got = "answered " + c.on(k);
    } catch (RuntimeException e) {
      got = e.getClass() == want ? "" : "threw " + e;
    }
    check(got.isEmpty(), call + " " + got + ", due is " + want.getSimpleName());
  }

  /** It throws NoSuchElementException, and all is as it was. */
  static void refusedNse(String call, Maker m, Call c) {
    nothingChanges(call, m, k -> nse(call, k, c));
  }

  /** It throws IllegalArgumentException, and all is as it was. */
  static void refusedIae(String call, Maker m, Call c) {
    nothingChanges(call, m, k -> iae(call, k, c));
  }

  /** It answers that, and all is as it was. */
  static void answersOnly(String call, Maker m, long want, Call c) {
    nothingChanges(call, m, k -> due(call, c.on(k), want));
  }

  /** Whatever it answers, all is as it was. */
  static void onlyAsks(String call, Maker m, Call c) {
    nothingChanges(call, m, c::on);
  }

  private interface Step {
    void on(SlotKeeper k);
  }

  private static void nothingChanges(String call, Maker m, Step step) {
    Maker called = () -> {
      SlotKeeper k = m.make();
      step.on(k);
      return k;
    };
    same("what is to be seen after " + call, look(called), LOOKS.computeIfAbsent(m, Sentences::look));
  }

  /** All that can be seen, of what is there, of what was, of the tape. */
  static String look(Maker m) {
    return lookWithoutTape(m) + tapeOf(m.make());
  }

  static String lookWithoutTape(Maker m) {
    return state(m.make()) + saidOf(m.make()) + answers(m.make()) + undone(m.make(), 1) + undone(m.make(), 2) + undone(m.make(), 17);
  }

  /** All that an ACT could change (which isn't the tape, fault(), how many ACTS are kept). */
  static String state(SlotKeeper k) {
    StringBuilder s = new StringBuilder("state");
    for (int i = 0; i < 17; i++) if (i != 7 && i != 8) s.append(' ').append(k.count(i));
    int n = k.count(0);
    s.append("; craft");
    for (int c = 0; c < n; c++) for (int i = 0; i < 14; i++) s.append(' ').append(k.craft(c, i));
    s.append("; plan ").append(plan(k)).append("; gaps");
    for (int x = 0; x < 64; x++) s.append(' ').append(k.gap(x / 8, x % 8));
    s.append("; closed");
    for (int i = 0; i < k.count(6); i++) s.append(' ').append(k.closed(i, false)).append('-').append(k.closed(i, true));
    s.append("; done");
    int done = k.count(5);
    for (int i = 0; i < done; i++) for (int w = 0; w < 3; w++) s.append(' ').append(k.done(i, w));
    return s.append("; ").toString();
  }

  private static String saidOf(SlotKeeper k) {
    StringBuilder s = new StringBuilder("said ");
    for (int i = 0; i < 120 && k.said(i) >= 0; i++) s.append((char) k.said(i));
    return s.append("; ").toString();
  }

  private static String answers(SlotKeeper k) {
    StringBuilder s = new StringBuilder("best");
    int n = k.count(0);
    for (int by = 0; by < 3; by++) {
      s.append(' ').append(k.best(by)).append(' ');
      for (int p = 0; p < n; p++) s.append(k.bestAt(by, p));
    }
    s.append("; ways ").append(k.ways(false)).append(' ').append(k.ways(true)).append("; worth");
    for (int w = 0; w < 4; w++) s.append(' ').append(k.worth(w));
    s.append("; loss");
    for (int c = 0; c < n; c++) s.append(' ').append(k.loss(c, 5));
    s.append("; hole");
    for (int sort = 0; sort < 8; sort++) s.append(' ').append(k.hole(sort, 0)).append(' ').append(k.hole(sort, 1999));
    s.append("; sorted");
    for (int sort = -1; sort < 8; sort++) for (int w = 0; w < 3; w++) s.append(' ').append(k.sorted(sort, w));
    return s.append("; day ").append(k.day(3, 9, 1, 0)).append("; ").toString();
  }

  private static String undone(SlotKeeper k, int times) {
    StringBuilder s = new StringBuilder("undone");
    s.append(' ').append(k.count(7)).append(':');
    for (int i = 0; i < times; i++) s.append(' ').append(k.undo());
    return s.append(' ').append(state(k)).toString();
  }

  /** What the bytes of the tape are is seen when they are read. */
  private static String tapeOf(SlotKeeper k) {
    StringBuilder s = new StringBuilder("fault ");
    s.append(k.fault()).append("; tape ").append(k.count(8));
    s.append(": ").append(k.board(k.count(8))).append(' ').append(k.fault());
    return s.append(' ').append(state(k)).toString();
  }

  static String plan(SlotKeeper k) {
    StringBuilder s = new StringBuilder();
    for (int p = 0; p < k.count(0); p++) s.append(k.planned(p));
    return s.toString();
  }

  static String slots(SlotKeeper k) {
    StringBuilder s = new StringBuilder();
    for (int p = 0; p < k.count(0); p++) s.append(p == 0 ? "" : " ").append(k.craft(k.planned(p), 6));
    return s.toString();
  }

  static String said(SlotKeeper k) {
    int n = k.say();
    StringBuilder s = new StringBuilder();
    for (int i = 0; i < n; i++) s.append((char) k.said(i));
    return s.toString();
  }

  /** The text comes on the tape, with blanks up to a multiple of twenty bytes. */
  static void feed(SlotKeeper k, String text) {
    StringBuilder padded = new StringBuilder(text);
    while (padded.length() % 20 != 0) padded.append(' ');
    for (int at = 0; at < padded.length(); at += 20) {
      int[] five = new int[5];
      for (int i = 0; i < 20; i++) five[i / 4] = five[i / 4] << 8 | padded.charAt(at + i);
      k.feed(five[0], five[1], five[2], five[3], five[4]);
    }
  }

  static int read(SlotKeeper k, String text) {
    feed(k, text);
    return k.board(text.length());
  }

  static SlotKeeper told(String text) {
    SlotKeeper k = new SlotKeeper();
    due("board of " + text, read(k, text), 0);
    return k;
  }

  /** Nobody FROZEN; SLOTS 10, 13, 16, WAITS 0, 3, 4, WEIGHTS 2, 5, 1: COSTS 19, 16, 4; no ACT. */
  static SlotKeeper three() {
    return told("freeze 0;craft lands 0 10 100 2;craft lands 1 10 100 5;craft leaves 0 12 100 1;");
  }

  /** So many that land, alike but for their numbers, and nobody FROZEN while NOW is ahead of READY. */
  static SlotKeeper alike(int n, int ready) {
    SlotKeeper k = new SlotKeeper();
    k.rule(true, 0);
    for (int i = 0; i < n; i++) k.come(0, ready, 1999, 1);
    return k;
  }

  static final Maker EMPTY = SlotKeeper::new;
  static final Maker RICH = Sentences::rich;
  static final Maker FULL = Sentences::full;

  /** Some of all: a FAULT, a GAP, a span, one DONE, four CRAFT (2 HURRIED), 11 ACTS, something SAID, a tape. */
  private static SlotKeeper rich() {
    SlotKeeper k = new SlotKeeper();
    read(k, " x");
    k.part(0, 2, 5);
    k.rule(true, 4);
    k.close(30, 34);
    k.come(1, 0, 50, 1);
    k.goOn(2);
    k.come(0, 10, 100, 2);
    k.come(2, 10, 100, 5);
    k.come(1, 12, 100, 1);
    k.come(4, 14, 60, 3);
    k.hurry(2, 1);
    k.tell(2013);
    k.say();
    feed(k, "shift 3;freeze 7;");
    return k;
  }

  /** As much of all as there can be: 500 bytes, 4 spans, 20 DONE, 10 CRAFT (two FROZEN), 16 ACTS. */
  private static SlotKeeper full() {
    SlotKeeper k = new SlotKeeper();
    StringBuilder text = new StringBuilder("shift 3;closed 7 8;craft leaves 2 3 4 5;");
    while (text.length() < 500) text.append('\n');
    feed(k, text.toString());
    k.close(40, 42);
    k.close(60, 61);
    k.close(80, 90);
    k.close(1500, 1600);
    for (int round = 0; round < 3; round++) {
      for (int i = 0; i < 10; i++) k.come(i * 3 % 8, round < 2 ? 0 : 71 + i, 1999, 1 + i * 7 % 20);
      if (round < 2) k.goOn(30 + 40 * round);
    }
    k.rule(true, 5);
    k.hurry(9, 1);
    k.say();
    return k;
  }
}
