import java.util.NoSuchElementException;

/** Each promise of the document by itself: ordinary inputs, the edges it names, wrong inputs. */
public final class PromisesTest {
  private static int wrong = 0;
  private static int checks = 0;
  private static int promise = 0;

  private interface Call {
    long answer();
  }

  private static void due(String call, long got, long want) {
    checks++;
    if (got == want) return;
    wrong++;
    System.out.println("promise " + promise + ": " + call + " answered " + got + ", due is " + want);
  }

  private static void thrown(String call, Call c, Class<? extends RuntimeException> want) {
    checks++;
    String got;
    try {
      got = String.valueOf(c.answer());
    } catch (RuntimeException e) {
      if (e.getClass() == want) return;
      got = e.toString();
    }
    wrong++;
    System.out.println("promise " + promise + ": " + call + " answered " + got + ", due is " + want.getSimpleName());
  }

  private static void nse(String call, Call c) {
    thrown(call, c, NoSuchElementException.class);
  }

  private static void iae(String call, Call c) {
    thrown(call, c, IllegalArgumentException.class);
  }

  /** Feeds a text, blanks behind it, and answers board() of its length. */
  private static int read(SlotKeeper k, String text) {
    feed(k, text);
    return k.board(text.length());
  }

  private static void feed(SlotKeeper k, String text) {
    StringBuilder padded = new StringBuilder(text);
    while (padded.length() % 20 != 0) padded.append(' ');
    for (int at = 0; at < padded.length(); at += 20) {
      int[] five = new int[5];
      for (int i = 0; i < 20; i++) five[i / 4] = five[i / 4] << 8 | padded.charAt(at + i);
      k.feed(five[0], five[1], five[2], five[3], five[4]);
    }
  }

  private static String said(SlotKeeper k) {
    int n = k.say();
    StringBuilder s = new StringBuilder();
    for (int i = 0; i < n; i++) s.append((char) k.said(i));
    due("said(" + n + ")", k.said(n), -1);
    return s.toString();
  }

  private static void plan(String call, SlotKeeper k, String figures) {
    StringBuilder got = new StringBuilder();
    for (int i = 0; i < k.count(0); i++) got.append(k.planned(i));
    checks++;
    if (got.toString().equals(figures)) return;
    wrong++;
    System.out.println("promise " + promise + ": THE PLAN after " + call + " is " + got + ", due is " + figures);
  }

  private static void text(String what, String got, String want) {
    checks++;
    if (got.equals(want)) return;
    wrong++;
    System.out.println("promise " + promise + ": " + what + " is " + got + ", due is " + want);
  }

  /** GAPS 3, SHIFT 2, FREEZE 0; SLOTS 10, 13, 16, WAITS 0, 3, 4: COSTS 19, 16, 4; no ACT is kept. */
  private static SlotKeeper three() {
    SlotKeeper k = new SlotKeeper();
    due("board of three", read(k, "freeze 0; craft lands 0 10 100 2; craft lands 1 10 100 5; craft leaves 0 12 100 1;"), 0);
    return k;
  }

  private static SlotKeeper many(int n, int ready) {
    SlotKeeper k = new SlotKeeper();
    k.rule(true, 0);
    for (int i = 0; i < n; i++) k.come(0, ready, 1999, 1);
    return k;
  }

  private static void newObject() {
    SlotKeeper k = new SlotKeeper();
    int[] first = {0, 0, 2, 10, 0, 0, 0, 0, 0, 1, 1, 0, 0, 0, 0, -1, 0};
    for (int i = 0; i < first.length; i++) due("count(" + i + ")", k.count(i), first[i]);
    for (int x = 0; x < 8; x++) for (int y = 0; y < 8; y++) due("gap", k.gap(x, y), 3);
    due("fault()", k.fault(), -1);
    due("undo()", k.undo(), -1);
    due("said(0)", k.said(0), -1);
    due("NONE", SlotKeeper.NONE, -1);
    // objects have nothing in common
    k.come(0, 1, 2, 3);
    due("count(0) of another one", new SlotKeeper().count(0), 0);
  }

  private static void feeding() {
    SlotKeeper k = new SlotKeeper();
    for (int i = 1; i <= 25; i++) due("feed", k.feed(i, -1, 0, 1 << 31, 5), 20 * i);
    due("feed of a full tape", k.feed(1, 2, 3, 4, 5), -1);
    due("count(8)", k.count(8), 500);
    // the highest byte first: s h i f | t ' ' 3 ;
    k = new SlotKeeper();
    k.feed(0x73686966, 0x7420333B, 0, 0, 0);
    due("board(8)", k.board(8), 0);
    due("count(2)", k.count(2), 3);
    due("count(8)", k.count(8), 0);
    due("count(7): feed is no ACT", k.count(7), 0);
  }

  private static void reading() {
    SlotKeeper k = new SlotKeeper();
    due("board", read(k, "gap lands 1 leaves 2 17;closed 5 9;\nshift 0;freeze99;craft leaves3 1 2 20;craft lands0 999 1999 0;closed 0 1999;"), 0);
    due("gap(2, 5)", k.gap(2, 5), 17);
    due("gap(5, 2)", k.gap(5, 2), 3);
    due("count(2)", k.count(2), 0);
    due("count(3)", k.count(3), 99);
    due("closed(0, false)", k.closed(0, false), 5);
    due("closed(0, true)", k.closed(0, true), 9);
    due("closed(1, true)", k.closed(1, true), 1999);
    int[] second = {0, 999, 1999, 0};
    for (int i = 0; i < 4; i++) due("craft(1, " + i + ")", k.craft(1, i), second[i]);
    due("craft(0, 0)", k.craft(0, 0), 7);
    plan("board", k, "01");
    // all anew, where it isn't told
    k.hurry(0, 1);
    k.goOn(7);
    due("board", read(k, "craft lands 0 0 0 1;"), 0);
    int[] anew = {1, 0, 2, 10, 1, 0, 0, 0, 0};
    for (int i = 0; i < anew.length; i++) due("count(" + i + ")", k.count(i), anew[i]);
    due("gap(2, 5)", k.gap(2, 5), 3);
    due("craft(0, 11)", k.craft(0, 11), 0);
    due("undo()", k.undo(), -1);
    k.goOn(50);
    due("count(5)", k.count(5), 1);
    due("board(0)", k.board(0), 0);
    due("count(5)", k.count(5), 0);
    due("count(0)", k.count(0), 0);
    // a later line counts, of a GAP, of SHIFT; the tape behind the first n is gone, too
    feed(k, "shift 3;shift 1;gap lands 0 lands 0 5;gap lands 0 lands 0 0;shift 2;");
    due("board", k.board(60), 0);
    due("count(2)", k.count(2), 1);
    due("gap(0, 0)", k.gap(0, 0), 0);
    due("count(8)", k.count(8), 0);
    // what it refuses
    feed(k, "shift 0;");
    iae("board(-1)", () -> k.board(-1));
    iae("board(21)", () -> k.board(21));
    iae("board(MIN)", () -> k.board(Integer.MIN_VALUE));
    iae("board(MAX)", () -> k.board(Integer.MAX_VALUE));
    due("count(8)", k.count(8), 20);
    due("count(2)", k.count(2), 1);
    k.come(0, 1, 1, 1);
    k.goOn(1);
    feed(k, "craft lands 0 5 4 1;");
    due("board with a FAULT", k.board(k.count(8)), 2);
    due("count(8)", k.count(8), 0);
    due("count(2)", k.count(2), 1);
    due("count(5)", k.count(5), 1);
    due("count(7)", k.count(7), 2);
    // 500 bytes are read to the last one
    SlotKeeper full = new SlotKeeper();
    StringBuilder long500 = new StringBuilder("shift 1;");
    while (long500.length() < 492) long500.append('\n');
    due("board(500)", read(full, long500 + "shift 0;"), 0);
    due("count(2)", full.count(2), 0);
  }

  private static void fault(String text, int fault, int place) {
    SlotKeeper k = new SlotKeeper();
    due("board(" + text + ")", read(k, text), fault);
    due("fault() of " + text, k.fault(), place);
  }

  private static void faults() {
    fault("", 0, -1);
    fault(" \n ", 0, -1);
    fault("shift 1", 1, 7);
    fault("shift 1  ", 1, 9);
    fault("shift", 1, 5);
    fault("shift;", 1, 5);
    fault(";", 1, 0);
    fault("shift 1;;", 1, 8);
    fault(" 5;", 1, 1);
    fault("Shift 1;", 1, 0);
    fault("shifts 1;", 1, 0);
    fault("shift1;", 0, -1);
    fault("shift\t1;", 1, 5);
    fault("shift \r1;", 1, 6);
    fault("shift 1" + (char) 200 + ";", 1, 7);
    fault("shift -1;", 1, 6);
    fault("shift 1 1;", 1, 8);
    fault("shift 4;", 2, 6);
    fault("shift 003;", 0, -1);
    fault("shift 4294967296;", 2, 6);
    fault("freeze 99;", 0, -1);
    fault("freeze 100;", 2, 7);
    fault("gap lands 3 leaves 3 99;", 0, -1);
    fault("gap lands 3 leaves 3 100;", 2, 21);
    fault("gap lands 4 leaves 3 99;", 2, 10);
    fault("gap lands 0 leaves 4 99;", 2, 19);
    fault("gap 0 leaves 4 99;", 1, 4);
    fault("gap lands leaves 4 99;", 1, 10);
    fault("gap land 0 lands 0 9;", 1, 4);
    fault("craft lands 0 999 1999 20;", 0, -1);
    fault("craft lands 0 1000 1999 20;", 2, 14);
    fault("craft lands 0 7 7 20;", 0, -1);
    fault("craft lands 0 7 6 20;", 2, 16);
    fault("craft lands 0 7 2000 20;", 2, 16);
    fault("craft lands 0 7 8 21;", 2, 18);
    fault("craft lands 0 7 8;", 1, 17);
    fault("closed 1998 1999;", 0, -1);
    fault("closed 1999 2000;", 2, 7);
    fault("closed 5 5;", 2, 9);
    fault("closed 5 2000;", 2, 9);
    fault("closed 5 4 9;", 2, 9);
    String four = "closed 0 1;closed 0 1;closed 0 1;closed 0 1;";
    fault(four, 0, -1);
    fault(four + " closed 0 1;", 3, four.length() + 1);
    fault(four + "closed x", 3, four.length());
    fault(four + "closed", 3, four.length());
    String ten = "craft lands0 0 9 1;".repeat(10);
    fault(ten, 0, -1);
    fault(ten + "craft lands0 0 9 1;", 3, ten.length());
    fault(ten + "shift 9;craft", 2, ten.length() + 6);
    for (String word : new String[] {"xhift 1;", "shifx 1;", "rreeze 1;", "hlosed 1 2;", "xap lands 0 lands 0 1;", "kraft lands 0 1 2 3;"}) fault(word, 1, 0);
    fault("gap xands 0 lands 0 1;", 1, 4);
    fault("gap lands 0 xeaves 0 1;", 1, 12);
    // what stands on the tape behind the first n is not of the TEXT
    SlotKeeper cut = new SlotKeeper();
    feed(cut, "freeze 999;");
    due("board(9)", cut.board(9), 1);
    due("fault()", cut.fault(), 9);
    feed(cut, "shifty 1;");
    due("board(5)", cut.board(5), 1);
    due("fault()", cut.fault(), 5);
    // the latest board() counts, but for one that threw
    SlotKeeper k = new SlotKeeper();
    read(k, "x");
    due("fault()", k.fault(), 0);
    iae("board(1)", () -> k.board(1));
    due("fault()", k.fault(), 0);
    k.come(0, 0, 0, 0);
    k.undo();
    due("fault()", k.fault(), 0);
    k.board(0);
    due("fault()", k.fault(), -1);
  }

  private static void counting() {
    SlotKeeper k = three();
    int[] first = {3, 0, 2, 0, 0, 0, 0, 0, 0, 1, 1, 19, 16, 4, 0, -1, 0};
    for (int i = 0; i < first.length; i++) due("count(" + i + ")", k.count(i), first[i]);
    // FROZEN: NOW and FREEZE, together, or less
    k.rule(true, 12);
    due("count(4)", k.count(4), 1);
    k.rule(true, 13);
    due("count(4)", k.count(4), 2);
    k.rule(true, 0);
    // HOLDS: no SLOT above LATEST
    k.change(2, 1, 16);
    due("count(9)", k.count(9), 1);
    k.change(2, 1, 15);
    due("count(9)", k.count(9), 0);
    k.change(2, 1, 100);
    k.close(10, 11);
    k.change(0, 1, 10);
    due("count(9): the first one is late", k.count(9), 0);
    k.undo();
    k.undo();
    // ALLOWED: no more than SHIFT away, FROZEN ones are not asked
    k.tell(201);
    due("count(10)", k.count(10), 1);
    due("count(16)", k.count(16), 2);
    k.rule(false, 1);
    due("count(10)", k.count(10), 0);
    k.rule(true, 12);
    due("count(4), 2 at 12", k.count(4), 1);
    due("count(10)", k.count(10), 1);
    k.tell(210);
    due("count(16)", k.count(16), 3);
    // CROOKED: one of a SORT with itself, too
    SlotKeeper c = new SlotKeeper();
    c.part(0, 0, 6);
    due("count(14)", c.count(14), 0);
    c.part(0, 0, 7);
    due("count(14)", c.count(14), 7);
    due("count(15)", c.count(15), 8);
    c.part(0, 0, 3);
    c.part(7, 6, 99);
    due("count(14)", c.count(14), 6);
    due("count(15)", c.count(15), 64 * 7 + 6);
    nse("count(-1)", () -> c.count(-1));
    nse("count(17)", () -> c.count(17));
    nse("count(MAX)", () -> c.count(Integer.MAX_VALUE));
    nse("count(MIN)", () -> c.count(Integer.MIN_VALUE));
  }

  private static void ofCraft() {
    SlotKeeper k = three();
    int[] second = {2, 10, 100, 5, 1, 1, 13, 3, 0, 0, 0, 0, 0, 84};
    for (int i = 0; i < second.length; i++) due("craft(1, " + i + ")", k.craft(1, i), second[i]);
    k.tell(201);
    due("craft(2, 4)", k.craft(2, 4), 2);
    due("craft(2, 5)", k.craft(2, 5), 0);
    due("craft(2, 8)", k.craft(2, 8), -2);
    due("craft(0, 8)", k.craft(0, 8), 1);
    k.rule(true, 12);
    due("craft(2, 9)", k.craft(2, 9), 1);
    due("craft(0, 9)", k.craft(0, 9), 0);
    k.change(0, 1, 14);
    due("craft(0, 6)", k.craft(0, 6), 15);
    due("craft(0, 10)", k.craft(0, 10), 1);
    due("craft(0, 13): THE PLAN doesn't HOLD", k.craft(0, 13), -1);
    due("craft(1, 13): THE PLAN doesn't HOLD", k.craft(1, 13), -1);
    // RANK: HURRIED ones first, then READY, then numbers
    k.hurry(1, 1);
    due("craft(1, 4)", k.craft(1, 4), 0);
    due("craft(0, 4)", k.craft(0, 4), 1);
    due("craft(1, 11)", k.craft(1, 11), 1);
    k.hurry(2, 1);
    due("craft(2, 4)", k.craft(2, 4), 1);
    due("craft(0, 4)", k.craft(0, 4), 2);
    nse("craft(-1, 0)", () -> k.craft(-1, 0));
    nse("craft(3, 0)", () -> k.craft(3, 0));
    nse("craft(0, 14)", () -> k.craft(0, 14));
    nse("craft(0, -1)", () -> k.craft(0, -1));
    gapsOfAllPairs();
    heldBy();
    slack();
  }

  /** The one behind the next one is held by the first one: its GAP is asked, too. */
  private static void gapsOfAllPairs() {
    SlotKeeper k = new SlotKeeper();
    k.part(0, 4, 20);
    k.come(0, 10, 99, 1);
    k.come(2, 10, 99, 1);
    k.come(4, 10, 99, 1);
    due("craft(1, 6)", k.craft(1, 6), 13);
    due("craft(2, 6)", k.craft(2, 6), 30);
    due("craft(2, 12)", k.craft(2, 12), 0);
    k.part(2, 4, 17);
    due("craft(2, 12): the nearest one", k.craft(2, 12), 1);
    k.close(30, 32);
    k.close(32, 35);
    k.close(29, 31);
    due("craft(2, 6)", k.craft(2, 6), 35);
    due("craft(2, 12)", k.craft(2, 12), -3);
    k.goOn(30);
    due("craft(0, 6)", k.craft(0, 6), 35);
    k.goOn(34);
    due("craft(0, 6)", k.craft(0, 6), 35);
    k.goOn(35);
    due("done(0, 1)", k.done(0, 1), 35);
  }

  private static void heldBy() {
    SlotKeeper k = three();
    due("craft(0, 12)", k.craft(0, 12), -2);
    due("craft(2, 12)", k.craft(2, 12), 1);
    k.goOn(10);
    due("craft(0, 6)", k.craft(0, 6), 13);
    due("craft(0, 12)", k.craft(0, 12), -4);
    due("craft(1, 12)", k.craft(1, 12), 0);
    k.goOn(12);
    k.part(0, 2, 0);
    due("craft(0, 6)", k.craft(0, 6), 12);
    due("craft(0, 12): NOW", k.craft(0, 12), -2);
    k.close(11, 13);
    due("craft(0, 6)", k.craft(0, 6), 13);
    due("craft(0, 12)", k.craft(0, 12), -3);
    SlotKeeper s = three();
    s.close(10, 11);
    due("craft(0, 6)", s.craft(0, 6), 11);
    due("craft(0, 12)", s.craft(0, 12), -3);
    due("craft(1, 12)", s.craft(1, 12), 0);
    // a CLOSED span counts ahead of one that is DONE
    k.part(0, 2, 3);
    due("craft(0, 12)", k.craft(0, 12), -3);
  }

  private static void slack() {
    SlotKeeper k = new SlotKeeper();
    k.come(0, 990, 1200, 1);
    due("craft(0, 13): 99 at most", k.craft(0, 13), 99);
    k.come(0, 990, 1000, 1);
    due("craft(0, 13): the other one must HOLD, too", k.craft(0, 13), 7);
    due("craft(1, 13): beyond 999", k.craft(1, 13), 7);
    k.close(995, 1000);
    due("craft(0, 13): 994 and 1000, but not 1000 and 1003", k.craft(0, 13), 4);
    k.close(1000, 1001);
    due("craft(0, 13)", k.craft(0, 13), 1);
    k.change(1, 1, 993);
    due("craft(0, 13)", k.craft(0, 13), 0);
  }

  private static void places() {
    SlotKeeper k = three();
    k.tell(120);
    due("planned(0)", k.planned(0), 1);
    due("planned(2)", k.planned(2), 0);
    nse("planned(3)", () -> k.planned(3));
    nse("planned(-1)", () -> k.planned(-1));
    nse("planned of nobody", () -> new SlotKeeper().planned(0));
  }

  private static void gaps() {
    SlotKeeper k = new SlotKeeper();
    k.part(7, 0, 9);
    due("gap(7, 0)", k.gap(7, 0), 9);
    due("gap(0, 7)", k.gap(0, 7), 3);
    nse("gap(8, 0)", () -> k.gap(8, 0));
    nse("gap(0, 8)", () -> k.gap(0, 8));
    nse("gap(-1, 0)", () -> k.gap(-1, 0));
    nse("gap(0, -1)", () -> k.gap(0, -1));
  }

  private static void closedSpans() {
    SlotKeeper k = new SlotKeeper();
    k.close(3, 9);
    due("closed(0, false)", k.closed(0, false), 3);
    due("closed(0, true)", k.closed(0, true), 9);
    nse("closed(1, true)", () -> k.closed(1, true));
    nse("closed(-1, false)", () -> k.closed(-1, false));
  }

  private static void coming() {
    SlotKeeper k = new SlotKeeper();
    due("come", k.come(7, 0, 0, 0), 0);
    due("come", k.come(0, 999, 1999, 20), 1);
    due("come", k.come(0, 5, 5, 1), 2);
    plan("come", k, "012");
    due("count(7)", k.count(7), 3);
    iae("come(-1, ..)", () -> k.come(-1, 0, 0, 0));
    iae("come(8, ..)", () -> k.come(8, 0, 0, 0));
    iae("READY -1", () -> k.come(0, -1, 0, 0));
    iae("READY 1000", () -> k.come(0, 1000, 1999, 0));
    iae("LATEST below READY", () -> k.come(0, 5, 4, 0));
    iae("LATEST 2000", () -> k.come(0, 5, 2000, 0));
    iae("WEIGHT -1", () -> k.come(0, 5, 5, -1));
    iae("WEIGHT 21", () -> k.come(0, 5, 5, 21));
    for (int i = 3; i < 10; i++) k.come(0, 5, 5, 1);
    due("an 11th one", k.come(0, 5, 5, 1), -1);
    iae("an 11th one that isn't as told", () -> k.come(0, 5, 5, 21));
    due("count(7): what is refused is no ACT", k.count(7), 10);
  }

  private static void going() {
    SlotKeeper k = three();
    k.hurry(2, 1);
    k.tell(210);
    due("go(1)", k.go(1), 2);
    plan("go(1)", k, "10");
    due("craft(1, 0)", k.craft(1, 0), 1);
    due("craft(1, 11)", k.craft(1, 11), 1);
    due("craft(0, 6)", k.craft(0, 6), 15);
    int[] left = {1, 12, 100, 1};
    for (int i = 0; i < 4; i++) due("craft(1, " + i + ")", k.craft(1, i), left[i]);
    k.come(3, 20, 30, 7);
    k.go(0);
    int[] last = {3, 20, 30, 7};
    for (int i = 0; i < 4; i++) due("craft(1, " + i + ")", k.craft(1, i), last[i]);
    k.undo();
    k.undo();
    nse("go(2)", () -> k.go(2));
    nse("go(-1)", () -> k.go(-1));
    due("go(1)", k.go(1), 1);
    due("go(0)", k.go(0), 0);
    nse("go(0)", () -> k.go(0));
    // one that comes isn't HURRIED, whoever had its number
    k.come(0, 1, 1, 1);
    k.come(0, 1, 1, 1);
    due("craft(1, 11)", k.craft(1, 11), 0);
  }

  private static void changing() {
    SlotKeeper k = three();
    due("change READY", k.change(0, 0, 999), 10);
    due("craft(0, 1)", k.craft(0, 1), 999);
    due("craft(0, 2)", k.craft(0, 2), 999);
    due("change READY back", k.change(0, 0, 0), 999);
    due("craft(0, 2) stays", k.craft(0, 2), 999);
    due("change LATEST", k.change(0, 1, 1999), 999);
    due("change LATEST", k.change(0, 1, 0), 1999);
    due("change WEIGHT", k.change(0, 2, 20), 2);
    due("craft(0, 3)", k.craft(0, 3), 20);
    due("change WEIGHT", k.change(0, 2, 0), 20);
    due("change WEIGHT", k.change(0, 2, 20), 0);
    due("count(7)", k.count(7), 7);
    due("as it was is an ACT", k.change(0, 2, 20), 20);
    due("count(7)", k.count(7), 8);
    nse("no such CRAFT", () -> k.change(3, 0, -1));
    nse("another what", () -> k.change(0, 3, -1));
    nse("another what", () -> k.change(0, -1, 0));
    iae("READY 1000", () -> k.change(0, 0, 1000));
    iae("READY -1", () -> k.change(0, 0, -1));
    iae("LATEST below READY", () -> k.change(1, 1, 9));
    iae("LATEST 2000", () -> k.change(1, 1, 2000));
    iae("WEIGHT 21", () -> k.change(1, 2, 21));
    iae("WEIGHT -1", () -> k.change(1, 2, -1));
    due("count(7)", k.count(7), 8);
  }

  private static void parting() {
    SlotKeeper k = three();
    due("part", k.part(0, 2, 99), 3);
    due("part", k.part(0, 2, 0), 99);
    due("craft(1, 6)", k.craft(1, 6), 10);
    nse("part(8, 0, 100)", () -> k.part(8, 0, 100));
    nse("part(0, -1, 100)", () -> k.part(0, -1, 100));
    iae("part(0, 0, 100)", () -> k.part(0, 0, 100));
    iae("part(0, 0, -1)", () -> k.part(0, 0, -1));
    due("count(7)", k.count(7), 2);
  }

  private static void ruling() {
    SlotKeeper k = new SlotKeeper();
    due("rule(false, 3)", k.rule(false, 3), 2);
    due("rule(false, 0)", k.rule(false, 0), 3);
    due("rule(true, 99)", k.rule(true, 99), 10);
    due("rule(true, 0)", k.rule(true, 0), 99);
    due("count(2)", k.count(2), 0);
    due("count(3)", k.count(3), 0);
    iae("SHIFT 4", () -> k.rule(false, 4));
    iae("SHIFT -1", () -> k.rule(false, -1));
    iae("FREEZE 100", () -> k.rule(true, 100));
    iae("FREEZE -1", () -> k.rule(true, -1));
    due("count(7)", k.count(7), 4);
  }

  private static void hurrying() {
    SlotKeeper k = three();
    due("hurry(2, 1)", k.hurry(2, 1), 0);
    due("hurry(2, 1)", k.hurry(2, 1), 1);
    due("craft(2, 4)", k.craft(2, 4), 0);
    due("craft(1, 4)", k.craft(1, 4), 2);
    due("hurry(2, 0)", k.hurry(2, 0), 1);
    due("craft(2, 4)", k.craft(2, 4), 2);
    due("count(7)", k.count(7), 3);
    nse("hurry(3, 2)", () -> k.hurry(3, 2));
    iae("hurry(0, 2)", () -> k.hurry(0, 2));
    iae("hurry(0, -1)", () -> k.hurry(0, -1));
  }

  private static void closing() {
    SlotKeeper k = three();
    due("close(10, 12)", k.close(10, 12), 1);
    due("craft(0, 6): B is open", k.craft(0, 6), 12);
    due("craft(1, 6)", k.craft(1, 6), 15);
    due("close(0, 1)", k.close(0, 1), 2);
    due("close(1998, 1999)", k.close(1998, 1999), 3);
    due("close(11, 20): the same time twice", k.close(11, 20), 4);
    due("craft(0, 6)", k.craft(0, 6), 20);
    due("a fifth one", k.close(0, 1), -1);
    iae("a fifth one that isn't as told", () -> k.close(5, 5));
    due("count(7)", k.count(7), 4);
    SlotKeeper e = new SlotKeeper();
    iae("close(-1, 5)", () -> e.close(-1, 5));
    iae("close(1999, 2000)", () -> e.close(1999, 2000));
    iae("close(7, 6)", () -> e.close(7, 6));
    iae("close(7, 2000)", () -> e.close(7, 2000));
    iae("close(MAX, MIN)", () -> e.close(Integer.MAX_VALUE, Integer.MIN_VALUE));
  }

  private static void opening() {
    SlotKeeper k = three();
    k.close(1, 2);
    k.close(10, 30);
    k.close(5, 6);
    due("open(1)", k.open(1), 2);
    due("closed(1, false)", k.closed(1, false), 5);
    due("craft(0, 6)", k.craft(0, 6), 10);
    nse("open(2)", () -> k.open(2));
    nse("open(-1)", () -> k.open(-1));
    due("open(0)", k.open(0), 1);
    due("open(0)", k.open(0), 0);
    nse("open(0)", () -> k.open(0));
    due("count(7)", k.count(7), 6);
  }

  private static void losing() {
    SlotKeeper k = three();
    // as it is BEST is 1 0 2: 10; 0 around by 5: READY 15, BEST 1 2 0: 10, 13, 16: 0 + 1 + 2
    due("loss(0, 5)", k.loss(0, 5), -7);
    // by 1: READY 11, BEST 1 0 2: 10, 13, 16: 0 + 4 + 4; by 99: READY 109, BEST 1 2 0
    due("loss(0, 1)", k.loss(0, 1), -2);
    due("loss(0, 99)", k.loss(0, 99), -9);
    due("loss(2, 5): it leaves", k.loss(2, 5), -1000000);
    nse("loss(3, 0)", () -> k.loss(3, 0));
    iae("loss(0, 0)", () -> k.loss(0, 0));
    iae("loss(0, 100)", () -> k.loss(0, 100));
    iae("loss(2, 100)", () -> k.loss(2, 100));
    due("nothing changes", k.craft(0, 1), 10);
    due("count(7)", k.count(7), 0);
    // LATEST grows by d with it: 1 around by 5 may be at 18
    k.change(1, 1, 13);
    due("loss(1, 5)", k.loss(1, 5) == -1000000 ? 1 : 0, 0);
    k.change(2, 1, 12);
    k.change(1, 1, 10);
    k.change(0, 1, 10);
    due("no BEST as it is", k.loss(0, 5), -1000000);
    // the other one waits then, as SHIFT is 0, and when it can't any more, there is no BEST then
    SlotKeeper n = new SlotKeeper();
    n.rule(false, 0);
    n.rule(true, 0);
    n.come(0, 10, 20, 1);
    n.come(0, 18, 20, 1);
    due("loss(0, 6)", n.loss(0, 6), 1);
    n.change(1, 1, 18);
    due("best(0)", n.best(0), 0);
    due("loss(0, 6)", n.loss(0, 6), -1000000);
    due("loss(0, 5)", n.loss(0, 5), 0);
  }

  private static int draw(int[] x, int n) {
    x[0] = x[0] * 1103515245 + 12345;
    return (x[0] >>> 16 & 0x7fff) % n;
  }

  private static SlotKeeper ruled(int seed) {
    SlotKeeper k = new SlotKeeper();
    for (int i = 0; i < 64; i++) k.part(i / 8, i % 8, (i * 37 + seed * 11) % 17);
    k.rule(false, seed % 4);
    k.rule(true, seed * 5 % 13);
    k.close(20, 26);
    k.close(40, 41);
    return k;
  }

  /** A DAY by the other calls: WAITS times WEIGHTS, the latest SLOT, the greatest WAIT. */
  private static int[] dayByHand(int seed, int n, int way, int ruledBy) {
    SlotKeeper k = ruled(ruledBy);
    int[] x = {seed};
    int[] all = new int[3];
    int ready = 0;
    for (int i = 0; i < n; i++) {
      int sort = draw(x, 8);
      ready += draw(x, 10);
      int weight = draw(x, 4) + 1;
      if (ready > k.count(1)) goOnCounting(k, ready, all);
      if (k.count(0) == 10) goOnCounting(k, k.craft(k.planned(0), 6), all);
      int craft = k.come(sort, ready, 1999, weight);
      if (way == 1) k.plan(0);
      if (way == 2) k.putIn(craft);
      if (way == 3) k.trade();
    }
    goOnCounting(k, 1999, all);
    return all;
  }

  private static void goOnCounting(SlotKeeper k, int t, int[] all) {
    for (int c = 0; c < k.count(0); c++) {
      if (k.craft(c, 6) > t) continue;
      all[0] += k.craft(c, 7) * k.craft(c, 3);
      all[1] = Math.max(all[1], k.craft(c, 6));
      all[2] = Math.max(all[2], k.craft(c, 7));
    }
    k.goOn(t);
  }

  private static void days() {
    SlotKeeper k = new SlotKeeper();
    int[] x = {77};
    int sort = draw(x, 8);
    int ready = draw(x, 10);
    int weight = draw(x, 4) + 1;
    int sort2 = draw(x, 8);
    int ready2 = ready + draw(x, 10);
    int weight2 = draw(x, 4) + 1;
    due("day of one: its SLOT", k.day(77, 1, 0, 1), ready);
    due("day of one: its WAIT", k.day(77, 1, 1, 2), 0);
    k.part(sort, sort2, 50);
    due("day of two: WAITS", k.day(77, 2, 0, 0), (ready + 50 - ready2) * weight2);
    due("day of two: the latest SLOT", k.day(77, 2, 0, 1), ready + 50);
    due("day of two: the greatest WAIT", k.day(77, 2, 0, 2), ready + 50 - ready2);
    k.close(ready, ready + 7);
    due("day: CLOSED spans are asked", k.day(77, 1, 0, 0), 7 * weight);
    // who is there, who is DONE, NOW count for nothing, and nothing changes
    k.come(0, 3, 9, 1);
    k.goOn(40);
    int acts = k.count(7);
    due("day", k.day(77, 1, 0, 0), 7 * weight);
    due("count(1)", k.count(1), 40);
    due("count(5)", k.count(5), 1);
    due("count(7)", k.count(7), acts);
    for (int seed = 0; seed < 12; seed++)
      for (int way = 0; way < 4; way++) {
        int[] all = dayByHand(seed * 7919, 18, way, seed);
        SlotKeeper same = ruled(seed);
        for (int w = 0; w < 3; w++) due("day(" + seed * 7919 + ", 18, " + way + ", " + w + ")", same.day(seed * 7919, 18, way, w), all[w]);
      }
    iae("n 0", () -> k.day(1, 0, 0, 0));
    iae("n 41", () -> k.day(1, 41, 0, 0));
    iae("way -1", () -> k.day(1, 1, -1, 3));
    iae("way 4", () -> k.day(1, 1, 4, 3));
    nse("what 3", () -> k.day(1, 1, 0, 3));
    nse("what -1", () -> k.day(1, 40, 3, -1));
    // GAPS of 99 for 40: time goes beyond 1999, where nothing HOLDS
    SlotKeeper w = new SlotKeeper();
    for (int i = 0; i < 8; i++) for (int j = 0; j < 8; j++) w.part(i, j, 99);
    int first = -1;
    for (int way = 0; way < 4; way++) {
      int end = w.day(5, 40, way, 1);
      if (first < 0) first = end;
      due("day's end by way " + way, end, first);
    }
    due("day's end is beyond 1999", first > 1999 ? 1 : 0, 1);
    // the plain way is never better than BEST at each step here, nor than one TRADE
    for (int seed = 1; seed < 20; seed++) {
      int plain = w.day(seed, 10, 0, 0);
      due("way 1 against way 0", w.day(seed, 10, 1, 0) <= plain ? 1 : 0, 1);
      due("way 3 against way 0", w.day(seed, 10, 3, 0) <= plain ? 1 : 0, 1);
    }
  }

  private static void finding() {
    SlotKeeper k = three();
    due("best(0)", k.best(0), 10);
    due("best(1)", k.best(1), 16);
    due("best(2)", k.best(2), 4);
    k.rule(false, 0);
    due("best(0), SHIFT 0", k.best(0), 19);
    k.rule(false, 2);
    k.rule(true, 10);
    due("best(0), 0 FROZEN", k.best(0), 19);
    k.change(1, 1, 10);
    due("best(0), 1 is late behind it", k.best(0), -1);
    due("best(1)", k.best(1), -1);
    k.rule(true, 0);
    due("best(0), it is first", k.best(0), 10);
    due("count(7)", k.count(7), 5);
    iae("best(3)", () -> k.best(3));
    iae("best(-1)", () -> k.best(-1));
    due("best of nobody", new SlotKeeper().best(2), 0);
    // FROZEN ones' WAITS count, too, and they may be as late as LATEST
    SlotKeeper z = three();
    z.close(0, 13);
    z.change(0, 1, 13);
    z.rule(true, 16);
    due("count(4): 13 and 16", z.count(4), 2);
    due("best(0)", z.best(0), 3 * 2 + 6 * 5 + 7);
    due("best(1)", z.best(1), 19);
    due("best(2)", z.best(2), 7);
    // a FROZEN one that is late: no ORDER HOLDS
    SlotKeeper f = new SlotKeeper();
    f.come(0, 1, 1, 1);
    f.goOn(0);
    f.close(0, 5);
    due("best(0)", f.best(0), -1);
  }

  private static void findingPlaces() {
    SlotKeeper k = three();
    int[] byWaits = {1, 0, 2};
    for (int i = 0; i < 3; i++) due("bestAt(0, " + i + ")", k.bestAt(0, i), byWaits[i]);
    // all end at 16: the first one by numbers
    for (int i = 0; i < 3; i++) due("bestAt(1, " + i + ")", k.bestAt(1, i), i);
    iae("bestAt(3, 9)", () -> k.bestAt(3, 9));
    iae("bestAt(-1, 0)", () -> k.bestAt(-1, 0));
    nse("bestAt(0, 3)", () -> k.bestAt(0, 3));
    nse("bestAt(0, -1)", () -> k.bestAt(0, -1));
    k.change(0, 1, 10);
    k.change(1, 1, 10);
    due("bestAt(0, 0): there is no BEST", k.bestAt(0, 0), -1);
    nse("bestAt(0, 3): there is no BEST", () -> k.bestAt(0, 3));
  }

  private static void waysTo() {
    SlotKeeper k = three();
    due("ways(false)", k.ways(false), 6);
    due("ways(true)", k.ways(true), 6);
    k.change(1, 1, 13);
    due("ways(true): 1 is not last", k.ways(true), 3);
    due("ways(false)", k.ways(false), 6);
    k.rule(false, 1);
    due("ways(false), SHIFT 1", k.ways(false), 3);
    k.rule(false, 0);
    due("ways(false), SHIFT 0", k.ways(false), 1);
    // FROZEN ones far away from their RANK leave no place to another one
    k.tell(210);
    k.rule(true, 99);
    due("ways(false), all FROZEN", k.ways(false), 1);
    due("ways(true), all FROZEN, 1 at 15", k.ways(true), 0);
    k.rule(true, 12);
    due("ways(false), 2 FROZEN", k.ways(false), 0);
    k.rule(false, 1);
    due("ways(false), 2 FROZEN, SHIFT 1", k.ways(false), 1);
    // a FROZEN one that is late
    k.rule(true, 0);
    k.tell(12);
    k.rule(true, 10);
    k.change(0, 1, 10);
    due("ways(true), 0 FROZEN at its LATEST", k.ways(true), 1);
    k.close(10, 11);
    due("ways(true), 0 isn't FROZEN any more, and late", k.ways(true), 0);
    k.rule(true, 11);
    due("ways(true), 0 FROZEN and late", k.ways(true), 0);
    due("ways(false), 0 FROZEN and late", k.ways(false), 2);
    due("ways(false) of ten, SHIFT 1", tenWays(1), 89);
    due("ways(false) of ten, SHIFT 2", tenWays(2), 2177);
    due("ways(false) of ten, SHIFT 3", tenWays(3), 19708);
  }

  private static int tenWays(int shift) {
    SlotKeeper k = many(10, 5);
    k.rule(false, shift);
    due("ways(true) of ten", k.ways(true), k.ways(false));
    return k.ways(false);
  }

  private static void worths() {
    SlotKeeper k = three();
    due("worth(0)", k.worth(0), 19);
    due("worth(1)", k.worth(1), 10);
    due("worth(3)", k.worth(3), 10);
    due("count(2)", k.count(2), 2);
    k.change(1, 1, 10);
    due("worth(0)", k.worth(0), -1);
    iae("worth(4)", () -> k.worth(4));
    iae("worth(-1)", () -> k.worth(-1));
  }

  private static void planning() {
    SlotKeeper k = three();
    due("plan(0)", k.plan(0), 10);
    plan("plan(0)", k, "102");
    due("count(11)", k.count(11), 10);
    due("plan(1)", k.plan(1), 16);
    plan("plan(1)", k, "012");
    due("plan(2)", k.plan(2), 4);
    due("count(7)", k.count(7), 3);
    k.change(0, 1, 10);
    k.change(1, 1, 10);
    due("plan(0): there is none", k.plan(0), -1);
    due("count(7)", k.count(7), 5);
    iae("plan(3)", () -> k.plan(3));
    iae("plan(-1)", () -> k.plan(-1));
  }

  private static void ranks() {
    SlotKeeper k = three();
    k.tell(210);
    due("byRanks()", k.byRanks(), 19);
    plan("byRanks()", k, "012");
    k.hurry(2, 1);
    due("byRanks(), 2 HURRIED: 12, 15, 18", k.byRanks(), 5 * 2 + 8 * 5);
    plan("byRanks()", k, "201");
    // FROZEN ones first, as they were
    k.hurry(2, 0);
    k.tell(120);
    k.rule(true, 10);
    due("byRanks(), 1 FROZEN", k.byRanks(), 3 * 2 + 4);
    plan("byRanks()", k, "102");
    due("count(7)", k.count(7), 8);
  }

  private static void tolds() {
    SlotKeeper k = three();
    due("told(12, 0)", k.told(12, 0), 19);
    due("told(102, 0)", k.told(102, 0), 10);
    due("told(210, 1)", k.told(210, 1), 18);
    due("told(210, 2)", k.told(210, 2), 1);
    due("told(210, 3)", k.told(210, 3), 1);
    k.rule(false, 1);
    due("told(210, 3)", k.told(210, 3), 0);
    due("told(102, 3)", k.told(102, 3), 1);
    k.rule(true, 10);
    due("told(102, 3): 0 is FROZEN", k.told(102, 3), 0);
    due("told(21, 3)", k.told(21, 3), 1);
    k.change(0, 1, 17);
    due("told(210, 2)", k.told(210, 2), 0);
    long[] none = {0, 2, 11, 112, 13, 310, 1012, 1102, 3012, -12, -102, Long.MIN_VALUE, Long.MAX_VALUE, 4294967308L};
    for (long order : none) iae("told(" + order + ", 9)", () -> k.told(order, 9));
    nse("told(12, 4)", () -> k.told(12, 4));
    nse("told(12, -1)", () -> k.told(12, -1));
    SlotKeeper one = many(1, 4);
    due("told(0, 1)", one.told(0, 1), 4);
    iae("told(1, 1)", () -> one.told(1, 1));
    SlotKeeper ten = many(10, 0);
    due("told(9876543210, 1)", ten.told(9876543210L, 1), 27);
    due("told(123456789, 0)", ten.told(123456789L, 0), 135);
    due("told(1023456789, 2)", ten.told(1023456789L, 2), 1);
    iae("told(9876543211, 1)", () -> ten.told(9876543211L, 1));
  }

  private static void tells() {
    SlotKeeper k = three();
    due("tell(201)", k.tell(201) ? 1 : 0, 1);
    plan("tell(201)", k, "201");
    due("tell(12)", k.tell(12) ? 1 : 0, 1);
    k.rule(true, 13);
    due("tell(102): others are FROZEN", k.tell(102) ? 1 : 0, 0);
    due("tell(21): others are FROZEN", k.tell(21) ? 1 : 0, 0);
    due("count(7)", k.count(7), 3);
    due("tell(12)", k.tell(12) ? 1 : 0, 1);
    due("count(7)", k.count(7), 4);
    iae("tell(11)", () -> k.tell(11) ? 1 : 0);
    iae("tell(-12)", () -> k.tell(-12) ? 1 : 0);
    // neither SHIFT nor LATEST is asked
    k.rule(true, 0);
    k.rule(false, 0);
    k.change(0, 1, 10);
    due("tell(210)", k.tell(210) ? 1 : 0, 1);
    due("count(9)", k.count(9), 0);
    due("count(10)", k.count(10), 0);
  }

  private static void puttingIn() {
    SlotKeeper k = three();
    due("putIn(1)", k.putIn(1), 0);
    plan("putIn(1)", k, "102");
    due("putIn(1): it stays, which is an ACT", k.putIn(1), 0);
    due("count(7)", k.count(7), 2);
    // SHIFT isn't asked
    k.rule(false, 0);
    k.tell(201);
    due("putIn(2)", k.putIn(2), 2);
    k.change(2, 2, 20);
    k.tell(12);
    due("putIn(2) by 20: 0 2 1: 20 + 30, 0 1 2: 15 + 80, 2 0 1: 10 + 40", k.putIn(2), 0);
    // of several the first place
    SlotKeeper alike = many(4, 7);
    due("putIn(3)", alike.putIn(3), 0);
    plan("putIn(3)", alike, "3012");
    due("putIn(1)", alike.putIn(1), 0);
    plan("putIn(1)", alike, "1302");
    // behind all FROZEN ones
    alike.rule(true, 10);
    due("count(4)", alike.count(4), 2);
    due("putIn(2)", alike.putIn(2), 2);
    due("putIn(3): it is FROZEN", alike.putIn(3), -1);
    alike.change(2, 1, 7);
    due("putIn(0): by none it HOLDS", alike.putIn(0), -1);
    due("putIn(2): by none it HOLDS", alike.putIn(2), -1);
    nse("putIn(4)", () -> alike.putIn(4));
    nse("putIn(-1)", () -> alike.putIn(-1));
  }

  private static void trading() {
    SlotKeeper k = three();
    due("trade()", k.trade(), 0);
    plan("trade()", k, "102");
    due("trade(): none is better", k.trade(), -1);
    due("count(7)", k.count(7), 1);
    k.tell(12);
    k.rule(true, 10);
    due("trade(): 0 is FROZEN", k.trade(), -1);
    k.rule(true, 0);
    k.rule(false, 0);
    due("trade(): SHIFT 0", k.trade(), -1);
    k.rule(false, 1);
    k.change(0, 1, 12);
    due("trade(): 0 would be late", k.trade(), -1);
    k.change(0, 1, 13);
    due("trade()", k.trade(), 0);
    // the one by which it becomes least, not the first one
    SlotKeeper b = many(3, 5);
    b.change(1, 2, 2);
    b.change(2, 2, 20);
    due("trade()", b.trade(), 1);
    due("trade()", b.trade(), 0);
    due("trade()", b.trade(), 1);
    due("trade()", b.trade(), -1);
    plan("trades", b, "210");
    SlotKeeper c = many(4, 5);
    c.change(1, 2, 20);
    c.change(3, 2, 2);
    due("trade(): the greater gain comes first", c.trade(), 0);
    plan("trade()", c, "1023");
    due("equal is not less", many(5, 5).trade(), -1);
    due("nobody", new SlotKeeper().trade(), -1);
  }

  private static void goingAround() {
    SlotKeeper k = three();
    due("around(1, 5)", k.around(1, 5), 18);
    due("craft(1, 2)", k.craft(1, 2), 105);
    plan("around(1, 5)", k, "021");
    due("around(2, 5): it leaves", k.around(2, 5), -1);
    due("count(7)", k.count(7), 1);
    due("around(0, 1)", k.around(0, 1), 11);
    plan("around(0, 1)", k, "210");
    k.undo();
    for (int s = 0; s < 8; s++) {
      SlotKeeper one = new SlotKeeper();
      one.come(s, 5, 9, 1);
      due("around of SORT " + s, one.around(0, 99), s % 2 == 0 ? 104 : -1);
    }
    nse("around(3, 0)", () -> k.around(3, 0));
    nse("around(-1, 0)", () -> k.around(-1, 0));
    iae("around(0, 0)", () -> k.around(0, 0));
    iae("around(2, 100)", () -> k.around(2, 100));
    // LATEST no less than READY: it was late
    k.change(0, 1, 10);
    k.close(0, 50);
    due("around(0, 99)", k.around(0, 99), 149);
    due("craft(0, 2)", k.craft(0, 2), 149);
    k.hurry(0, 1);
    k.around(0, 1);
    due("craft(0, 11): HURRIED stays", k.craft(0, 11), 1);
    // 999 and 1999 at most
    SlotKeeper e = new SlotKeeper();
    e.come(6, 990, 1950, 1);
    due("around(0, 50)", e.around(0, 50), 999);
    due("craft(0, 2)", e.craft(0, 2), 1999);
    e.goOn(1500);
    due("done(0, 1)", e.done(0, 1), 999);
  }

  private static void goingOn() {
    SlotKeeper k = three();
    due("goOn(9)", k.goOn(9), 0);
    due("goOn(13)", k.goOn(13), 2);
    due("count(0)", k.count(0), 1);
    due("count(1)", k.count(1), 13);
    due("craft(0, 6): it is held by those DONE", k.craft(0, 6), 16);
    due("goOn(13)", k.goOn(13), 0);
    due("count(7)", k.count(7), 3);
    iae("goOn(12)", () -> k.goOn(12));
    iae("goOn(2000)", () -> k.goOn(2000));
    due("goOn(1999)", k.goOn(1999), 1);
    iae("goOn(MAX)", () -> k.goOn(Integer.MAX_VALUE));
    // not those behind one that isn't: THE PLAN's front counts, whatever the numbers
    SlotKeeper o = three();
    o.tell(210);
    due("goOn(12)", o.goOn(12), 1);
    due("done(0, 0)", o.done(0, 0), 1);
    plan("goOn(12)", o, "10");
    // NOW holds one back
    SlotKeeper n = new SlotKeeper();
    n.goOn(50);
    n.come(0, 5, 99, 1);
    due("craft(0, 6)", n.craft(0, 6), 50);
    due("craft(0, 7)", n.craft(0, 7), 45);
    due("craft(0, 12)", n.craft(0, 12), -2);
  }

  /** 21 were DONE: SORT i MOD 8, SLOT 100 + 4 i, READY i. */
  private static SlotKeeper twentyOne() {
    SlotKeeper r = new SlotKeeper();
    for (int i = 0; i < 21; i++) {
      r.goOn(100 + 4 * i);
      r.come(i % 8, i, 1999, 1);
      r.goOn(100 + 4 * i);
    }
    return r;
  }

  private static void dones() {
    SlotKeeper k = three();
    k.goOn(16);
    int[][] rows = {{1, 16, 4}, {2, 13, 3}, {0, 10, 0}};
    for (int i = 0; i < 3; i++) for (int w = 0; w < 3; w++) due("done(" + i + ", " + w + ")", k.done(i, w), rows[i][w]);
    nse("done(3, 0)", () -> k.done(3, 0));
    nse("done(-1, 0)", () -> k.done(-1, 0));
    nse("done(0, 3)", () -> k.done(0, 3));
    nse("done(0, -1)", () -> k.done(0, -1));
    SlotKeeper r = twentyOne();
    due("count(5)", r.count(5), 20);
    for (int i = 0; i < 20; i++) {
      due("done(" + i + ", 0)", r.done(i, 0), (20 - i) % 8);
      due("done(" + i + ", 1)", r.done(i, 1), 100 + 4 * (20 - i));
      due("done(" + i + ", 2)", r.done(i, 2), 100 + 3 * (20 - i));
    }
    nse("done(20, 0)", () -> r.done(20, 0));
    // the latest 20; those beyond hold nobody any more
    SlotKeeper m = new SlotKeeper();
    m.part(0, 1, 99);
    m.part(2, 2, 0);
    m.come(0, 0, 9, 1);
    m.goOn(0);
    m.part(0, 2, 0);
    for (int i = 1; i <= 19; i++) {
      m.come(2, 0, 1999, 1);
      m.goOn(0);
    }
    due("count(5)", m.count(5), 20);
    m.come(1, 0, 1999, 1);
    due("craft(0, 6): the first one holds it", m.craft(0, 6), 99);
    m.come(2, 0, 1999, 1);
    m.tell(10);
    due("goOn(0)", m.goOn(0), 1);
    due("count(5)", m.count(5), 20);
    due("craft(0, 6): the first one is forgotten", m.craft(0, 6), 3);
  }

  private static void holes() {
    SlotKeeper k = three();
    // 10 L0, 13 L1, 16 T0
    due("hole(0, 0)", k.hole(0, 0), 0);
    due("hole(0, 7)", k.hole(0, 7), 7);
    due("hole(0, 8)", k.hole(0, 8), 19);
    k.part(6, 0, 0);
    due("hole(6, 8): no GAP ahead of 10", k.hole(6, 8), 8);
    due("hole(6, 10): behind 10, at the same time", k.hole(6, 10), 19);
    k.part(0, 6, 0);
    due("hole(6, 10): no GAP behind 10", k.hole(6, 10), 10);
    due("hole(6, 11)", k.hole(6, 11), 19);
    k.close(19, 40);
    due("hole(6, 11)", k.hole(6, 11), 40);
    k.goOn(16);
    due("hole(0, 0): those DONE count, too", k.hole(0, 0), 40);
    k.open(0);
    due("hole(0, 0)", k.hole(0, 0), 19);
    due("hole(0, 1999)", k.hole(0, 1999), 1999);
    k.close(1990, 1999);
    due("hole(0, 1990)", k.hole(0, 1990), 1999);
    k.goOn(1999);
    k.come(0, 0, 1999, 1);
    due("hole(0, 1999): none any more", k.hole(0, 1999), -1);
    SlotKeeper d = new SlotKeeper();
    d.part(0, 4, 50);
    d.come(0, 10, 10, 1);
    d.goOn(10);
    due("hole(4, 0): one is DONE", d.hole(4, 0), 60);
    d.come(0, 55, 55, 1);
    due("hole(4, 0): ahead of one and behind it", d.hole(4, 0), 105);
    nse("hole(8, -1)", () -> k.hole(8, -1));
    nse("hole(-1, 0)", () -> k.hole(-1, 0));
    iae("hole(0, -1)", () -> k.hole(0, -1));
    iae("hole(0, 2000)", () -> k.hole(0, 2000));
  }

  private static void sorts() {
    SlotKeeper k = three();
    k.come(2, 10, 99, 1);
    // WAITS 0, 3, 4, 9
    int[][] all = {{4, 16, 9}, {1, 0, 0}, {1, 4, 4}, {2, 12, 9}, {0, 0, 0}};
    for (int s = -1; s < 4; s++) for (int w = 0; w < 3; w++) due("sorted(" + s + ", " + w + ")", k.sorted(s, w), all[s + 1][w]);
    k.close(10, 11);
    // WAITS 1, 4, 5, 10: the first one waits, too
    int[][] later = {{4, 20, 10}, {1, 1, 1}};
    for (int s = -1; s < 1; s++) for (int w = 0; w < 3; w++) due("sorted(" + s + ", " + w + ")", k.sorted(s, w), later[s + 1][w]);
    SlotKeeper fresh = three();
    fresh.close(10, 30);
    due("sorted(-1, 2): THE PLAN as it is now", fresh.sorted(-1, 2), 24);
    fresh.undo();
    due("sorted(0, 2)", fresh.sorted(0, 2), 0);
    nse("sorted(8, 0)", () -> k.sorted(8, 0));
    nse("sorted(-2, 0)", () -> k.sorted(-2, 0));
    nse("sorted(0, 3)", () -> k.sorted(0, 3));
    nse("sorted(-1, -1)", () -> k.sorted(-1, -1));
  }

  private static String look(SlotKeeper k) {
    StringBuilder s = new StringBuilder();
    for (int i = 0; i < 17; i++) if (i != 7 && i != 8) s.append(k.count(i)).append(' ');
    for (int c = 0; c < k.count(0); c++) for (int i = 0; i < 14; i++) s.append(k.craft(c, i)).append(' ');
    for (int c = 0; c < k.count(0); c++) s.append(k.planned(c));
    for (int x = 0; x < 64; x++) s.append(k.gap(x / 8, x % 8)).append(' ');
    for (int i = 0; i < k.count(6); i++) s.append(k.closed(i, false)).append('-').append(k.closed(i, true));
    for (int i = 0; i < k.count(5); i++) for (int w = 0; w < 3; w++) s.append(k.done(i, w)).append(' ');
    return s.toString();
  }

  private static void undoing() {
    SlotKeeper k = three();
    k.say();
    int saidFirst = k.said(4);
    Call[] acts = {
      () -> k.come(4, 3, 8, 1), () -> k.go(0), () -> k.change(0, 0, 500), () -> k.change(0, 1, 700), () -> k.change(0, 2, 9),
      () -> k.hurry(1, 1), () -> k.part(2, 3, 50), () -> k.rule(false, 3), () -> k.rule(true, 1), () -> k.close(5, 8),
      () -> k.close(12, 14), () -> k.open(0), () -> k.plan(0), () -> k.byRanks(), () -> k.tell(210) ? 1 : 0, () -> k.around(0, 9)};
    String[] looks = new String[acts.length];
    for (int i = 0; i < acts.length; i++) {
      looks[i] = look(k);
      acts[i].answer();
      due("count(7)", k.count(7), i + 1);
    }
    feed(k, "x");
    for (int i = acts.length - 1; i >= 0; i--) {
      due("undo()", k.undo(), i);
      text("what is to be seen after the undoing of ACT " + i, look(k), looks[i]);
    }
    due("undo()", k.undo(), -1);
    due("the tape stays", k.count(8), 20);
    due("what was SAID stays", k.said(4), saidFirst);
    text("what is to be seen after no undoing", look(k), looks[0]);
    Call[] more = {() -> k.putIn(2), () -> k.trade(), () -> k.goOn(13), () -> k.goOn(200)};
    for (Call c : more) {
      String before = look(k);
      c.answer();
      due("undo()", k.undo(), 0);
      text("what is to be seen after one more undoing", look(k), before);
    }
    // those DONE are the same 20 again, though the first one was forgotten meanwhile
    SlotKeeper r = twentyOne();
    String all = look(r);
    r.come(7, 500, 500, 1);
    r.goOn(600);
    due("done(0, 0)", r.done(0, 0), 7);
    r.undo();
    r.undo();
    text("what is to be seen of those DONE", look(r), all);
    // the latest 16 are kept
    SlotKeeper m = new SlotKeeper();
    for (int i = 0; i < 40; i++) m.rule(true, i);
    due("count(7)", m.count(7), 16);
    for (int i = 15; i >= 0; i--) due("undo()", m.undo(), i);
    due("undo()", m.undo(), -1);
    due("count(3)", m.count(3), 23);
    m.rule(true, 5);
    due("count(7)", m.count(7), 1);
    due("undo()", m.undo(), 0);
    due("count(3)", m.count(3), 23);
    iae("a call that throws", () -> m.rule(true, -1));
    due("is no ACT", m.count(7), 0);
  }

  private static void saying() {
    SlotKeeper k = three();
    text("said", said(k), "L0@10,L1@13,T0@16");
    k.change(1, 1, 12);
    text("said", said(k), "L0@10,L1@13!,T0@16");
    k.close(0, 1997);
    due("say()", k.say(), "L0@1997!,L1@2000!,T0@2003!".length());
    text("said", said(k), "L0@1997!,L1@2000!,T0@2003!");
    SlotKeeper e = new SlotKeeper();
    due("say() of nobody", e.say(), 0);
    due("said(0)", e.said(0), -1);
    e.come(7, 0, 0, 0);
    text("said", said(e), "T3@0");
    due("count(7): say is no ACT", e.count(7), 1);
  }

  private static void saids() {
    SlotKeeper k = three();
    due("said(0): nothing was SAID", k.said(0), -1);
    k.say();
    k.tell(210);
    k.undo();
    k.go(0);
    k.board(0);
    due("said(0)", k.said(0), 'L');
    due("said(2)", k.said(2), '@');
    due("said(16)", k.said(16), '6');
    due("said(17)", k.said(17), -1);
    due("said(-1)", k.said(-1), -1);
    due("said(MAX)", k.said(Integer.MAX_VALUE), -1);
    due("said(MIN)", k.said(Integer.MIN_VALUE), -1);
    k.say();
    due("said(0)", k.said(0), -1);
  }

  public static void main(String[] args) {
    Runnable[] promises = {
      PromisesTest::newObject, PromisesTest::feeding, PromisesTest::reading, PromisesTest::faults, PromisesTest::counting,
      PromisesTest::ofCraft, PromisesTest::places, PromisesTest::gaps, PromisesTest::closedSpans, PromisesTest::coming,
      PromisesTest::going, PromisesTest::changing, PromisesTest::parting, PromisesTest::ruling, PromisesTest::hurrying,
      PromisesTest::closing, PromisesTest::opening, PromisesTest::losing, PromisesTest::days, PromisesTest::finding,
      PromisesTest::findingPlaces, PromisesTest::waysTo, PromisesTest::worths, PromisesTest::planning, PromisesTest::ranks,
      PromisesTest::tolds, PromisesTest::tells, PromisesTest::puttingIn, PromisesTest::trading, PromisesTest::goingAround,
      PromisesTest::goingOn, PromisesTest::dones, PromisesTest::holes, PromisesTest::sorts, PromisesTest::undoing,
      PromisesTest::saying, PromisesTest::saids};
    for (Runnable p : promises) {
      promise++;
      p.run();
    }
    System.out.println(promise + " promises, " + checks + " checks, " + wrong + " wrong");
    if (wrong != 0) System.exit(1);
  }
}
