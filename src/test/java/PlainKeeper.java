import java.util.ArrayList;
import java.util.Collections;
import java.util.List;
import java.util.NoSuchElementException;

/**
 * The document once more, as slowly and plainly as it can be written: every ORDER is laid anew from
 * its first CRAFT on, every question goes through all that could be an answer. Only for tests.
 */
public final class PlainKeeper {
  static final class Craft {
    int sort, ready, latest, weight, hurried;

    Craft(int sort, int ready, int latest, int weight) {
      this.sort = sort;
      this.ready = ready;
      this.latest = latest;
      this.weight = weight;
    }

    boolean lands() {
      return sort % 2 == 0;
    }
  }

  record Done(int sort, int slot, int waited) {}

  record Span(int a, int b) {}

  static final class State {
    List<Craft> craft = new ArrayList<>();
    List<Craft> plan = new ArrayList<>();
    int[][] gap = new int[8][8];
    List<Span> closed = new ArrayList<>();
    List<Done> done = new ArrayList<>();
    int shift = 2, freeze = 10, now = 0;

    State() {
      for (int[] row : gap) java.util.Arrays.fill(row, 3);
    }

    State copy() {
      State s = new State();
      for (Craft c : craft) {
        Craft d = new Craft(c.sort, c.ready, c.latest, c.weight);
        d.hurried = c.hurried;
        s.craft.add(d);
      }
      for (Craft c : plan) s.plan.add(s.craft.get(craft.indexOf(c)));
      for (int i = 0; i < 8; i++) s.gap[i] = gap[i].clone();
      s.closed.addAll(closed);
      s.done.addAll(done);
      s.shift = shift;
      s.freeze = freeze;
      s.now = now;
      return s;
    }

    boolean isClosed(int t) {
      for (Span s : closed) if (s.a <= t && t < s.b) return true;
      return false;
    }

    List<Integer> slots(List<Craft> order) {
      List<Integer> slots = new ArrayList<>();
      for (int i = 0; i < order.size(); i++) {
        Craft c = order.get(i);
        int t = Math.max(c.ready, now);
        while (!mayBe(order, slots, c, t)) t++;
        slots.add(t);
      }
      return slots;
    }

    private boolean mayBe(List<Craft> order, List<Integer> slots, Craft c, int t) {
      if (isClosed(t)) return false;
      for (Done d : done) if (t < d.slot + gap[d.sort][c.sort]) return false;
      for (int j = 0; j < slots.size(); j++) if (t < slots.get(j) + gap[order.get(j).sort][c.sort]) return false;
      return true;
    }

    boolean holds(List<Craft> order) {
      List<Integer> slots = slots(order);
      for (int i = 0; i < order.size(); i++) if (slots.get(i) > order.get(i).latest) return false;
      return true;
    }

    int cost(List<Craft> order, int by) {
      List<Integer> slots = slots(order);
      int sum = 0, end = 0, longest = 0;
      for (int i = 0; i < order.size(); i++) {
        int wait = slots.get(i) - order.get(i).ready;
        sum += wait * order.get(i).weight;
        end = Math.max(end, slots.get(i));
        longest = Math.max(longest, wait);
      }
      return by == 0 ? sum : by == 1 ? end : longest;
    }

    int frozen() {
      List<Integer> slots = slots(plan);
      int f = 0;
      while (f < plan.size() && slots.get(f) <= now + freeze) f++;
      return f;
    }

    int rank(Craft c) {
      int r = 0;
      int number = craft.indexOf(c);
      for (int i = 0; i < craft.size(); i++) {
        Craft o = craft.get(i);
        if (o == c) continue;
        if (o.hurried == 1 && c.hurried == 0) r++;
        if (o.hurried == c.hurried && (o.ready < c.ready || o.ready == c.ready && i < number)) r++;
      }
      return r;
    }

    boolean begins(List<Craft> order) {
      int f = frozen();
      return order.subList(0, f).equals(plan.subList(0, f));
    }

    boolean allowed(List<Craft> order) {
      if (!begins(order)) return false;
      for (int p = frozen(); p < order.size(); p++) if (Math.abs(p - rank(order.get(p))) > shift) return false;
      return true;
    }

    /** All ALLOWED ones by numbers along them; only what can't be ALLOWED any more is left out early. */
    List<List<Craft>> allowedOrders() {
      List<List<Craft>> all = new ArrayList<>();
      int f = frozen();
      List<Integer> ranks = new ArrayList<>();
      for (Craft c : craft) ranks.add(rank(c));
      grow(new ArrayList<>(plan.subList(0, f)), ranks, all);
      return all;
    }

    private void grow(List<Craft> begun, List<Integer> ranks, List<List<Craft>> all) {
      if (begun.size() == craft.size()) {
        all.add(new ArrayList<>(begun));
        return;
      }
      for (int i = 0; i < craft.size(); i++) {
        if (begun.contains(craft.get(i)) || Math.abs(ranks.get(i) - begun.size()) > shift) continue;
        begun.add(craft.get(i));
        grow(begun, ranks, all);
        begun.remove(begun.size() - 1);
      }
    }

    List<Craft> best(int by) {
      List<Craft> best = null;
      int least = 0;
      for (List<Craft> order : allowedOrders()) {
        if (!holds(order)) continue;
        int cost = cost(order, by);
        if (best == null || cost < least) {
          best = order;
          least = cost;
        }
      }
      return best;
    }

    int goOn(int t) {
      List<Integer> slots = slots(plan);
      int n = 0;
      while (n < slots.size() && slots.get(n) <= t) {
        Craft c = plan.remove(0);
        craft.remove(c);
        done.add(new Done(c.sort, slots.get(n), slots.get(n) - c.ready));
        if (done.size() > 20) done.remove(0);
        n++;
      }
      now = t;
      return n;
    }

    void around(Craft c, int d) {
      int slot = slots(plan).get(plan.indexOf(c));
      c.ready = slot + d > 999 ? 999 : slot + d;
      c.latest += d;
      if (c.latest < c.ready) c.latest = c.ready;
      if (c.latest > 1999) c.latest = 1999;
      plan.remove(c);
      plan.add(c);
    }

    int placeOfPutIn(Craft c) {
      int f = frozen();
      if (plan.indexOf(c) < f) return -1;
      int place = -1, least = 0;
      for (int p = f; p < plan.size(); p++) {
        List<Craft> order = putAt(c, p);
        if (holds(order) && (place < 0 || cost(order, 0) < least)) {
          place = p;
          least = cost(order, 0);
        }
      }
      return place;
    }

    List<Craft> putAt(Craft c, int p) {
      List<Craft> order = new ArrayList<>(plan);
      order.remove(c);
      order.add(p, c);
      return order;
    }

    int placeOfTrade() {
      int place = -1, least = cost(plan, 0);
      for (int p = frozen(); p + 1 < plan.size(); p++) {
        List<Craft> order = new ArrayList<>(plan);
        Collections.swap(order, p, p + 1);
        if (allowed(order) && holds(order) && cost(order, 0) < least) {
          place = p;
          least = cost(order, 0);
        }
      }
      return place;
    }
  }

  private State s = new State();
  private final List<State> acts = new ArrayList<>();
  private final List<Integer> tape = new ArrayList<>();
  private int faultPlace = -1;
  private String said = "";

  private void act() {
    acts.add(s.copy());
    if (acts.size() > 16) acts.remove(0);
  }

  private static void nse(boolean ok) {
    if (!ok) throw new NoSuchElementException();
  }

  private static void iae(boolean ok) {
    if (!ok) throw new IllegalArgumentException();
  }

  private Craft at(int craft) {
    nse(craft >= 0 && craft < s.craft.size());
    return s.craft.get(craft);
  }

  private static boolean in(int v, int least, int most) {
    return v >= least && v <= most;
  }

  public int feed(int a, int b, int c, int d, int e) {
    if (tape.size() + 20 > 500) return -1;
    for (int x : new int[] {a, b, c, d, e})
      for (byte y : java.nio.ByteBuffer.allocate(4).putInt(x).array()) tape.add(y & 255);
    return tape.size();
  }

  /** What each kind of line asks for behind its word: S a SORT, else the numbers' bounds by name. */
  private static String[] form(String word) {
    switch (word) {
      case "gap": return new String[] {"lands", "kind", "lands", "kind", "gap", ";"};
      case "craft": return new String[] {"lands", "kind", "ready", "latest", "weight", ";"};
      case "closed": return new String[] {"a", "b", ";"};
      case "shift": return new String[] {"shift", ";"};
      case "freeze": return new String[] {"freeze", ";"};
      default: return null;
    }
  }

  private static boolean fits(String name, java.math.BigInteger number, List<Integer> before) {
    int v = number.bitLength() > 20 ? 1000000 : number.intValue();
    int last = before.isEmpty() ? 0 : before.get(before.size() - 1);
    switch (name) {
      case "kind": case "shift": return v <= 3;
      case "gap": case "freeze": return v <= 99;
      case "ready": return v <= 999;
      case "latest": return v >= last && v <= 1999;
      case "weight": return v <= 20;
      case "a": return v <= 1998;
      default: return v > last && v <= 1999;
    }
  }

  private static void take(State into, String word, List<Integer> n) {
    switch (word) {
      case "gap": into.gap[2 * n.get(1) + n.get(0)][2 * n.get(3) + n.get(2)] = n.get(4); break;
      case "craft":
        Craft c = new Craft(2 * n.get(1) + n.get(0), n.get(2), n.get(3), n.get(4));
        into.craft.add(c);
        into.plan.add(c);
        break;
      case "closed": into.closed.add(new Span(n.get(0), n.get(1))); break;
      case "shift": into.shift = n.get(0); break;
      default: into.freeze = n.get(0);
    }
  }

  public int board(int n) {
    iae(n >= 0 && n <= tape.size());
    StringBuilder text = new StringBuilder();
    for (int i = 0; i < n; i++) text.append((char) (int) tape.get(i));
    tape.clear();
    State fresh = new State();
    java.util.regex.Matcher m = java.util.regex.Pattern.compile("[a-z]+|[0-9]+|[^ \\n]", java.util.regex.Pattern.DOTALL).matcher(text);
    String word = null;
    String[] form = null;
    List<Integer> got = new ArrayList<>();
    while (m.find()) {
      String t = m.group();
      int f = 0;
      if (form == null) {
        form = form(t);
        word = t;
        got.clear();
        if (form == null) f = 1;
        else if (t.equals("craft") && fresh.craft.size() == 10 || t.equals("closed") && fresh.closed.size() == 4) f = 3;
      } else {
        String want = form[got.size()];
        if (want.equals(";")) {
          if (t.equals(";")) take(fresh, word, got);
          else f = 1;
          form = null;
        } else if (want.equals("lands")) {
          if (t.equals("lands")) got.add(0);
          else if (t.equals("leaves")) got.add(1);
          else f = 1;
        } else if (!t.matches("[0-9]+")) f = 1;
        else if (!fits(want, new java.math.BigInteger(t), got)) f = 2;
        else got.add(Integer.parseInt(t));
      }
      if (f != 0) {
        faultPlace = m.start();
        return f;
      }
    }
    if (form != null) {
      faultPlace = n;
      return 1;
    }
    faultPlace = -1;
    s = fresh;
    acts.clear();
    return 0;
  }

  public int fault() {
    return faultPlace;
  }

  public int count(int what) {
    nse(in(what, 0, 16));
    int crooked = 0, first = -1;
    for (int x = 7; x >= 0; x--)
      for (int y = 7; y >= 0; y--)
        for (int z = 7; z >= 0; z--)
          if (s.gap[x][z] > s.gap[x][y] + s.gap[y][z]) {
            crooked++;
            first = 64 * x + 8 * y + z;
          }
    int turned = 0;
    for (Craft a : s.craft)
      for (Craft b : s.craft)
        if (s.plan.indexOf(a) < s.plan.indexOf(b) && s.rank(a) > s.rank(b)) turned++;
    int[] all = {s.craft.size(), s.now, s.shift, s.freeze, s.frozen(), s.done.size(), s.closed.size(), acts.size(), tape.size(),
      s.holds(s.plan) ? 1 : 0, s.allowed(s.plan) ? 1 : 0, s.cost(s.plan, 0), s.cost(s.plan, 1), s.cost(s.plan, 2), crooked, first, turned};
    return all[what];
  }

  public int craft(int craft, int what) {
    Craft c = at(craft);
    nse(in(what, 0, 13));
    int place = s.plan.indexOf(c);
    int slot = s.slots(s.plan).get(place);
    int[] all = {c.sort, c.ready, c.latest, c.weight, s.rank(c), place, slot, slot - c.ready, place - s.rank(c),
      place < s.frozen() ? 1 : 0, slot > c.latest ? slot - c.latest : 0, c.hurried};
    return what < 12 ? all[what] : what == 12 ? heldBy(c) : slack(craft);
  }

  private int heldBy(Craft c) {
    List<Integer> slots = s.slots(s.plan);
    int place = s.plan.indexOf(c);
    int slot = slots.get(place);
    if (slot == c.ready || slot == s.now) return -2;
    if (s.isClosed(slot - 1)) return -3;
    for (Done d : s.done) if (d.slot + s.gap[d.sort][c.sort] == slot) return -4;
    for (int p = place - 1; p >= 0; p--)
      if (slots.get(p) + s.gap[s.plan.get(p).sort][c.sort] == slot) return s.craft.indexOf(s.plan.get(p));
    throw new IllegalStateException("held by nobody");
  }

  private int slack(int craft) {
    int slack = -1;
    if (!s.holds(s.plan)) return slack;
    for (int d = 0; d <= 99; d++) {
      State t = s.copy();
      Craft c = t.craft.get(craft);
      c.ready = t.slots(t.plan).get(t.plan.indexOf(c)) + d;
      if (t.holds(t.plan)) slack = d;
    }
    return slack;
  }

  public int planned(int place) {
    nse(place >= 0 && place < s.plan.size());
    return s.craft.indexOf(s.plan.get(place));
  }

  public int gap(int ahead, int behind) {
    nse(in(ahead, 0, 7) && in(behind, 0, 7));
    return s.gap[ahead][behind];
  }

  public int closed(int i, boolean end) {
    nse(i >= 0 && i < s.closed.size());
    return end ? s.closed.get(i).b : s.closed.get(i).a;
  }

  public int come(int sort, int ready, int latest, int weight) {
    iae(in(sort, 0, 7) && in(ready, 0, 999) && in(latest, ready, 1999) && in(weight, 0, 20));
    if (s.craft.size() == 10) return -1;
    act();
    Craft c = new Craft(sort, ready, latest, weight);
    s.craft.add(c);
    s.plan.add(c);
    return s.craft.indexOf(c);
  }

  public int go(int craft) {
    at(craft);
    act();
    s.plan.remove(at(craft));
    s.craft.remove(craft);
    return s.craft.size();
  }

  public int change(int craft, int what, int v) {
    Craft c = at(craft);
    nse(in(what, 0, 2));
    iae(what == 0 ? in(v, 0, 999) : what == 1 ? in(v, c.ready, 1999) : in(v, 0, 20));
    act();
    int was = what == 0 ? c.ready : what == 1 ? c.latest : c.weight;
    if (what == 0) {
      c.ready = v;
      if (c.latest < v) c.latest = v;
    }
    if (what == 1) c.latest = v;
    if (what == 2) c.weight = v;
    return was;
  }

  public int part(int ahead, int behind, int v) {
    int was = gap(ahead, behind);
    iae(in(v, 0, 99));
    act();
    s.gap[ahead][behind] = v;
    return was;
  }

  public int rule(boolean freeze, int v) {
    iae(in(v, 0, freeze ? 99 : 3));
    act();
    int was = freeze ? s.freeze : s.shift;
    if (freeze) s.freeze = v;
    else s.shift = v;
    return was;
  }

  public int hurry(int craft, int hurried) {
    Craft c = at(craft);
    iae(in(hurried, 0, 1));
    act();
    int was = c.hurried;
    c.hurried = hurried;
    return was;
  }

  public int close(int from, int to) {
    iae(in(from, 0, 1998) && in(to, from + 1, 1999));
    if (s.closed.size() == 4) return -1;
    act();
    s.closed.add(new Span(from, to));
    return s.closed.size();
  }

  public int open(int i) {
    nse(i >= 0 && i < s.closed.size());
    act();
    s.closed.remove(i);
    return s.closed.size();
  }

  public int loss(int craft, int d) {
    Craft c = at(craft);
    iae(in(d, 1, 99));
    State t = s.copy();
    t.around(t.craft.get(craft), d);
    List<Craft> is = s.best(0), then = t.best(0);
    if (!c.lands() || is == null || then == null) return -1000000;
    return t.cost(then, 0) - s.cost(is, 0);
  }

  public int day(int seed, int n, int way, int what) {
    iae(in(n, 1, 40) && in(way, 0, 3));
    nse(in(what, 0, 2));
    State t = s.copy();
    t.craft.clear();
    t.plan.clear();
    t.done.clear();
    t.now = 0;
    List<Craft> all = new ArrayList<>();
    List<Integer> slots = new ArrayList<>();
    int[] x = {seed};
    int ready = 0;
    for (int i = 0; i < n; i++) {
      int sort = draw(x, 8);
      ready += draw(x, 10);
      int weight = draw(x, 4) + 1;
      if (ready > t.now) onTo(t, ready, all, slots);
      if (t.craft.size() == 10) onTo(t, t.slots(t.plan).get(0), all, slots);
      Craft c = new Craft(sort, ready, 1999, weight);
      t.craft.add(c);
      t.plan.add(c);
      List<Craft> best = way == 1 ? t.best(0) : null;
      if (best != null) t.plan = best;
      int place = way == 2 ? t.placeOfPutIn(c) : -1;
      if (place >= 0) t.plan = t.putAt(c, place);
      int couple = way == 3 ? t.placeOfTrade() : -1;
      if (couple >= 0) Collections.swap(t.plan, couple, couple + 1);
    }
    onTo(t, 1000000, all, slots);
    int sum = 0, end = 0, longest = 0;
    for (int i = 0; i < n; i++) {
      int wait = slots.get(i) - all.get(i).ready;
      sum += wait * all.get(i).weight;
      end = Math.max(end, slots.get(i));
      longest = Math.max(longest, wait);
    }
    return what == 0 ? sum : what == 1 ? end : longest;
  }

  private static void onTo(State t, int time, List<Craft> all, List<Integer> slots) {
    List<Craft> plan = new ArrayList<>(t.plan);
    List<Integer> were = t.slots(plan);
    int n = t.goOn(time);
    all.addAll(plan.subList(0, n));
    slots.addAll(were.subList(0, n));
  }

  private static int draw(int[] x, int n) {
    x[0] = (int) (x[0] * 1103515245L + 12345L);
    return ((x[0] >> 16) & 0x7fff) % n;
  }

  public int best(int cost) {
    iae(in(cost, 0, 2));
    List<Craft> best = s.best(cost);
    return best == null ? -1 : s.cost(best, cost);
  }

  public int bestAt(int cost, int place) {
    iae(in(cost, 0, 2));
    nse(place >= 0 && place < s.craft.size());
    List<Craft> best = s.best(cost);
    return best == null ? -1 : s.craft.indexOf(best.get(place));
  }

  public int ways(boolean holding) {
    int n = 0;
    for (List<Craft> order : s.allowedOrders()) if (!holding || s.holds(order)) n++;
    return n;
  }

  public int worth(int k) {
    iae(in(k, 0, 3));
    State t = s.copy();
    t.shift = k;
    List<Craft> best = t.best(0);
    return best == null ? -1 : t.cost(best, 0);
  }

  public int plan(int cost) {
    int least = best(cost);
    if (least < 0) return -1;
    act();
    s.plan = s.best(cost);
    return least;
  }

  public int byRanks() {
    act();
    int f = s.frozen();
    List<Craft> order = new ArrayList<>(s.plan.subList(0, f));
    for (int r = 0; r < s.craft.size(); r++)
      for (Craft c : s.craft) if (s.rank(c) == r && !order.contains(c)) order.add(c);
    s.plan = order;
    return s.cost(order, 0);
  }

  private List<Craft> orderOf(long order) {
    int n = s.craft.size();
    iae(order >= 0);
    String figures = order == 0 && n < 2 ? "" : Long.toString(order);
    if (figures.length() == n - 1) figures = "0" + figures;
    iae(figures.length() == n);
    List<Craft> row = new ArrayList<>();
    for (char f : figures.toCharArray()) {
      iae(f - '0' < n && !row.contains(s.craft.get(f - '0')));
      row.add(s.craft.get(f - '0'));
    }
    return row;
  }

  public int told(long order, int what) {
    List<Craft> row = orderOf(order);
    nse(in(what, 0, 3));
    int[] all = {s.cost(row, 0), s.cost(row, 1), s.holds(row) ? 1 : 0, s.allowed(row) ? 1 : 0};
    return all[what];
  }

  public boolean tell(long order) {
    List<Craft> row = orderOf(order);
    if (!s.begins(row)) return false;
    act();
    // the copy that act() kept has CRAFT of its own: the row is of those still here
    s.plan = row;
    return true;
  }

  public int putIn(int craft) {
    Craft c = at(craft);
    int place = s.placeOfPutIn(c);
    if (place < 0) return -1;
    act();
    s.plan = s.putAt(c, place);
    return place;
  }

  public int trade() {
    int place = s.placeOfTrade();
    if (place < 0) return -1;
    act();
    Collections.swap(s.plan, place, place + 1);
    return place;
  }

  public int around(int craft, int d) {
    Craft c = at(craft);
    iae(in(d, 1, 99));
    if (!c.lands()) return -1;
    act();
    s.around(c, d);
    return c.ready;
  }

  public int goOn(int t) {
    iae(in(t, s.now, 1999));
    act();
    return s.goOn(t);
  }

  public int done(int i, int what) {
    nse(i >= 0 && i < s.done.size() && in(what, 0, 2));
    Done d = s.done.get(s.done.size() - 1 - i);
    return what == 0 ? d.sort : what == 1 ? d.slot : d.waited;
  }

  public int hole(int sort, int from) {
    nse(in(sort, 0, 7));
    iae(in(from, 0, 1999));
    List<Done> others = new ArrayList<>(s.done);
    List<Integer> slots = s.slots(s.plan);
    for (int i = 0; i < slots.size(); i++) others.add(new Done(s.plan.get(i).sort, slots.get(i), 0));
    for (int t = Math.max(from, s.now); t <= 1999; t++) {
      boolean ok = !s.isClosed(t);
      for (Done o : others) {
        if (o.slot <= t && t - o.slot < s.gap[o.sort][sort]) ok = false;
        if (o.slot > t && o.slot - t < s.gap[sort][o.sort]) ok = false;
      }
      if (ok) return t;
    }
    return -1;
  }

  public int sorted(int sort, int what) {
    nse(in(sort, -1, 7) && in(what, 0, 2));
    int n = 0, waits = 0, longest = 0;
    List<Integer> slots = s.slots(s.plan);
    for (int i = 0; i < slots.size(); i++) {
      Craft c = s.plan.get(i);
      if (sort >= 0 && c.sort != sort) continue;
      n++;
      waits += slots.get(i) - c.ready;
      longest = Math.max(longest, slots.get(i) - c.ready);
    }
    return what == 0 ? n : what == 1 ? waits : longest;
  }

  public int undo() {
    if (acts.isEmpty()) return -1;
    s = acts.remove(acts.size() - 1);
    return acts.size();
  }

  public int say() {
    List<String> parts = new ArrayList<>();
    List<Integer> slots = s.slots(s.plan);
    for (int i = 0; i < slots.size(); i++) {
      Craft c = s.plan.get(i);
      parts.add((c.lands() ? "L" : "T") + c.sort / 2 + "@" + slots.get(i) + (slots.get(i) > c.latest ? "!" : ""));
    }
    said = String.join(",", parts);
    return said.length();
  }

  public int said(int i) {
    return i >= 0 && i < said.length() ? said.charAt(i) : -1;
  }
}
