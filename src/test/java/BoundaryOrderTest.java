/** Promises 18 to 29: what going around would cost, DAYS, BEST, and all that makes THE PLAN another one. */
public final class BoundaryOrderTest extends Sentences {
  private static final int MIN = Integer.MIN_VALUE;
  private static final int MAX = Integer.MAX_VALUE;
  private static final int NO_LOSS = -1000000;

  /** Two that may not wait: no ORDER HOLDS. */
  private static final Maker HOPELESS = () -> {
    SlotKeeper k = three();
    k.change(0, 1, 10);
    k.change(1, 1, 10);
    return k;
  };

  // "NoSuchElementException: no such CRAFT. IllegalArgumentException (behind that): d."
  static void p18_no_such_craft_is_refused_first() {
    for (int c : new int[] {-1, 4, MIN, MAX}) {
      refusedNse("loss(" + c + ", 1)", RICH, k -> k.loss(c, 1));
      refusedNse("loss(" + c + ", 0)", RICH, k -> k.loss(c, 0));
    }
    refusedNse("loss(10, 1)", FULL, k -> k.loss(10, 1));
  }

  static void p18_d_1_to_99() {
    SlotKeeper k = three();
    due("loss(0, 1)", k.loss(0, 1), -2);
    due("loss(0, 99)", k.loss(0, 99), -9);
    for (int d : new int[] {0, -1, 100, MIN, MAX}) {
      refusedIae("loss(0, " + d + ")", RICH, x -> x.loss(0, d));
      refusedIae("loss(2, " + d + "), which leaves", RICH, x -> x.loss(2, d));
      refusedIae("loss(0, " + d + ") without BEST", HOPELESS, x -> x.loss(0, d));
    }
  }

  // "-1000000: it leaves, there is no BEST as it is or then"
  static void p18_one_that_leaves() {
    answersOnly("loss(2, 5)", RICH, NO_LOSS, k -> k.loss(2, 5));
    for (int sort = 0; sort < 8; sort++) {
      SlotKeeper k = new SlotKeeper();
      k.come(sort, 10, 99, 1);
      due("loss of SORT " + sort, k.loss(0, 5), sort % 2 == 1 ? NO_LOSS : 0);
    }
  }

  static void p18_no_best_as_it_is() {
    // 2 is in nobody's way, and with 1 gone around there would be one
    answersOnly("loss(1, 5)", HOPELESS, NO_LOSS, k -> k.loss(1, 5));
    answersOnly("loss(0, 5)", HOPELESS, NO_LOSS, k -> k.loss(0, 5));
  }

  static void p18_no_best_then() {
    SlotKeeper k = told("shift 0;freeze 0;craft lands 0 10 20 1;craft lands 0 18 18 1;");
    due("loss(0, 5): 15 and 18", k.loss(0, 5), 0);
    due("loss(0, 6): 16 and 19, which is late", k.loss(0, 6), NO_LOSS);
    k.change(1, 1, 19);
    due("loss(0, 6): 16 and 19", k.loss(0, 6), 1);
    due("loss(0, 8): 18 and 21", k.loss(0, 8), NO_LOSS);
    due("loss(0, 9): it comes behind 18 by RANK, then at 21", k.loss(0, 9), 2);
  }

  static void p18_frozen_then_are_those_of_the_plan_then() {
    SlotKeeper k = alike(2, 10);
    k.rule(true, 10);
    // 0 FROZEN: 10 and 13; then 1 is FROZEN at 10, and 0, READY 11, at 13
    due("loss(0, 1)", k.loss(0, 1), 2 - 3);
    k.rule(true, 9);
    due("loss(0, 1), nobody FROZEN: 1 at 10 and 0 at 13", k.loss(0, 1), 2 - 3);
    k.rule(true, 13);
    due("loss(1, 1), both FROZEN: 10 and 14", k.loss(1, 1), 0 - 3);
  }

  static void p18_ready_999_and_latest_1999_at_most() {
    SlotKeeper k = new SlotKeeper();
    k.come(0, 999, 1999, 7);
    due("loss(0, 99): READY is 999 then", k.loss(0, 99), 0);
    k.close(999, 1100);
    due("loss(0, 99): at 1100 as it is and then", k.loss(0, 99), 0);
    k.change(0, 0, 990);
    due("loss(0, 99): at 990 as it is, READY 999 then and at 1100", k.loss(0, 99), 101 * 7);
    k.open(0);
    k.close(990, 1100);
    due("loss(0, 99): READY 990 waits 110, 999 waits 101", k.loss(0, 99), -9 * 7);
  }

  static void p18_nothing_changes() {
    for (int d : new int[] {1, 50, 99}) {
      onlyAsks("loss(0, " + d + ")", RICH, k -> k.loss(0, d));
      onlyAsks("loss(8, " + d + ")", FULL, k -> k.loss(8, d));
    }
  }

  // "DRAW of n: x, at first the seed, becomes x times 1103515245 and 12345 (an int that wraps); its bits 16 to 30 MOD n"
  private static int draw(long[] x, int n) {
    java.math.BigInteger next = java.math.BigInteger.valueOf(x[0]).multiply(java.math.BigInteger.valueOf(1103515245)).add(java.math.BigInteger.valueOf(12345));
    x[0] = next.intValue();
    int bits = 0;
    for (int bit = 30; bit >= 16; bit--) bits = 2 * bits + (java.math.BigInteger.valueOf(x[0]).testBit(bit) ? 1 : 0);
    return bits % n;
  }

  /** Way 0 with the same GAP for all: WAITS times WEIGHTS, the latest SLOT, the greatest WAIT. */
  private static int[] plainDay(int seed, int n, int gap) {
    long[] x = {seed};
    int ready = 0;
    int slot = 0;
    int[] all = new int[3];
    for (int i = 0; i < n; i++) {
      draw(x, 8);
      ready += draw(x, 10);
      int weight = draw(x, 4) + 1;
      slot = i == 0 ? ready : Math.max(ready, slot + gap);
      all[0] += (slot - ready) * weight;
      all[1] = slot;
      all[2] = Math.max(all[2], slot - ready);
    }
    return all;
  }

  private static SlotKeeper gapsOf(int gap) {
    SlotKeeper k = new SlotKeeper();
    for (int x = 0; x < 64; x++) k.part(x / 8, x % 8, gap);
    return k;
  }

  static void p19_a_draw_wraps() {
    for (int seed : new int[] {0, 1, -1, 12345, MIN, MAX, MIN + 1, MAX - 1, 1 << 30, -12345, 1234567890}) {
      int[] all = plainDay(seed, 40, 3);
      for (int w = 0; w < 3; w++) due("day(" + seed + ", 40, 0, " + w + ")", new SlotKeeper().day(seed, 40, 0, w), all[w]);
    }
  }

  // "n CRAFT (1 to 40)", "IllegalArgumentException: n, another way."
  static void p19_n_1_to_40() {
    for (int n : new int[] {1, 2, 39, 40}) {
      int[] all = plainDay(7, n, 3);
      for (int w = 0; w < 3; w++) due("day(7, " + n + ", 0, " + w + ")", new SlotKeeper().day(7, n, 0, w), all[w]);
    }
    for (int n : new int[] {0, -1, 41, MIN, MAX}) {
      refusedIae("day(1, " + n + ", 0, 0)", RICH, k -> k.day(1, n, 0, 0));
      refusedIae("day(1, " + n + ", 0, 3)", RICH, k -> k.day(1, n, 0, 3));
    }
  }

  static void p19_way_0_to_3() {
    for (int way = 0; way < 4; way++) due("day of one by way " + way, new SlotKeeper().day(7, 1, way, 1), plainDay(7, 1, 3)[1]);
    for (int way : new int[] {-1, 4, MIN, MAX}) {
      refusedIae("day(1, 1, " + way + ", 0)", RICH, k -> k.day(1, 1, way, 0));
      refusedIae("day(1, 1, " + way + ", 3)", RICH, k -> k.day(1, 1, way, 3));
    }
  }

  // "NoSuchElementException (behind that): another what."
  static void p19_what_0_to_2() {
    for (int what : new int[] {-1, 3, MIN, MAX}) {
      refusedNse("day(1, 1, 0, " + what + ")", RICH, k -> k.day(1, 1, 0, what));
      refusedNse("day(1, 40, 3, " + what + ")", RICH, k -> k.day(1, 40, 3, what));
    }
  }

  static void p19_a_day_of_one_waits_for_nobody() {
    for (int seed = 0; seed < 50; seed++) {
      due("WAITS", new SlotKeeper().day(seed, 1, seed % 4, 0), 0);
      due("the latest SLOT", new SlotKeeper().day(seed, 1, seed % 4, 1), plainDay(seed, 1, 3)[1]);
    }
  }

  // "if 10 CRAFT are there still, time GOES ON to the SLOT of the first one of THE PLAN"
  static void p19_the_11th_makes_the_first_one_go() {
    for (int n : new int[] {10, 11, 12, 20}) {
      int[] all = plainDay(3, n, 99);
      for (int w = 0; w < 3; w++) due("day(3, " + n + ", 0, " + w + ")", gapsOf(99).day(3, n, 0, w), all[w]);
    }
  }

  // "(.. time may be beyond 1999 here.)"
  static void p19_time_goes_beyond_1999() {
    int[] all = plainDay(3, 40, 99);
    check(all[1] >= 39 * 99, "the DAY ends at 3861 or later");
    for (int w = 0; w < 3; w++) due("day(3, 40, 0, " + w + ")", gapsOf(99).day(3, 40, 0, w), all[w]);
    for (int way = 1; way < 4; way++) due("day(3, 40, " + way + ", 1)", gapsOf(99).day(3, 40, way, 1), all[1]);
  }

  // "(Where there is no BEST, place, couple, THE PLAN stays; ..)"
  static void p19_the_plan_stays_where_nothing_holds() {
    // all is CLOSED ahead of 1999: the first one HOLDS there, nobody behind it, so nothing is ever changed
    SlotKeeper k = gapsOf(5);
    k.close(0, 1999);
    int waits = k.day(9, 8, 0, 0);
    due("the end", k.day(9, 8, 0, 1), 1999 + 7 * 5);
    for (int way = 1; way < 4; way++) due("WAITS by way " + way, k.day(9, 8, way, 0), waits);
  }

  // "on a BOARD with GAPS, CLOSED spans, SHIFT, FREEZE as they are, nobody on it, nobody DONE, NOW 0"
  static void p19_who_is_there_and_was_there_counts_for_nothing() {
    SlotKeeper k = new SlotKeeper();
    k.rule(false, 1);
    k.close(20, 30);
    int[] before = new int[12];
    for (int i = 0; i < 12; i++) before[i] = k.day(5, 20, i / 3, i % 3);
    for (int i = 0; i < 10; i++) {
      k.come(i % 8, i, 1999, 1);
      k.hurry(i, 1);
    }
    k.goOn(12);
    for (int i = 0; i < 12; i++) due("day(5, 20, " + i / 3 + ", " + i % 3 + ")", k.day(5, 20, i / 3, i % 3), before[i]);
  }

  /** GAPS, a span, SHIFT, FREEZE of their own for each seed, the same on both. */
  private static void rule(SlotKeeper k, PlainKeeper p, int seed, int least, int most) {
    for (int i = 0; i < 64; i++) {
      int gap = least + (i * 37 + seed * 11) % (most - least + 1);
      k.part(i / 8, i % 8, gap);
      p.part(i / 8, i % 8, gap);
    }
    k.rule(false, seed % 2 + 1);
    p.rule(false, seed % 2 + 1);
    k.rule(true, seed * 5 % 13);
    p.rule(true, seed * 5 % 13);
    k.close(20 + seed, 26 + seed);
    p.close(20 + seed, 26 + seed);
  }

  // "way 0: nothing more; 1: THE PLAN becomes BEST by COST 0; 2: the one that came is PUT IN; 3: one TRADE at most"
  static void p19_each_way_does_what_is_told() {
    boolean[] differ = new boolean[16];
    for (int seed = 0; seed < 6; seed++) {
      SlotKeeper k = new SlotKeeper();
      PlainKeeper p = new PlainKeeper();
      rule(k, p, seed, 0, 14);
      for (int way = 0; way < 4; way++) {
        for (int w = 0; w < 3; w++) due("day(" + seed + ", 14, " + way + ", " + w + ")", k.day(seed, 14, way, w), p.day(seed, 14, way, w));
        for (int other = 0; other < way; other++) differ[4 * way + other] |= k.day(seed, 14, way, 0) != k.day(seed, 14, other, 0);
      }
    }
    for (int way = 0; way < 4; way++) for (int other = 0; other < way; other++) check(differ[4 * way + other], "ways " + way + " and " + other + " differ");
  }

  static void p19_each_way_with_ten_there_and_beyond_1999() {
    for (int seed = 1; seed < 4; seed += 2) {
      SlotKeeper k = new SlotKeeper();
      PlainKeeper p = new PlainKeeper();
      rule(k, p, seed, 40, 99);
      k.rule(false, 1);
      p.rule(false, 1);
      for (int way = 0; way < 4; way++)
        for (int n : new int[] {12, 18, 40}) due("day(" + seed + ", " + n + ", " + way + ", 0)", k.day(seed, n, way, 0), p.day(seed, n, way, 0));
      check(k.day(seed, 40, 1, 1) > 1999, "it goes beyond 1999");
    }
  }

  /** Drawn rules by which many have the same SLOT, and time is often beyond READY of the one that comes. */
  private static void crowd(SlotKeeper k, PlainKeeper p, int drawn) {
    java.util.Random r = new java.util.Random(drawn);
    int[] gaps = {0, 0, r.nextInt(6), r.nextInt(40), r.nextInt(100)};
    for (int i = 0; i < 64; i++) {
      int gap = gaps[r.nextInt(5)];
      k.part(i / 8, i % 8, gap);
      p.part(i / 8, i % 8, gap);
    }
    int freeze = r.nextInt(20);
    int shift = 1 + r.nextInt(2);
    k.rule(true, freeze);
    p.rule(true, freeze);
    k.rule(false, shift);
    p.rule(false, shift);
    for (int i = r.nextInt(4); i > 0; i--) {
      int from = r.nextInt(100);
      int to = from + 1 + r.nextInt(60);
      k.close(from, to);
      p.close(from, to);
    }
  }

  // "time GOES ON to its READY (if that is later than NOW)": not back, and nobody at NOW is DONE by staying there
  static void p19_time_goes_on_only_to_a_later_ready() {
    // READY the same as NOW tells by these
    for (int drawn : new int[] {4, 96, 120, 393})
      for (int n : new int[] {15, 25, 40}) alikeInACrowd(drawn, n, 3);
    // READY sooner than NOW tells by these
    for (int drawn : new int[] {1, 5, 9, 16, 17, 24})
      for (int n : new int[] {15, 25, 40}) alikeInACrowd(drawn, n, 2);
  }

  private static void alikeInACrowd(int drawn, int n, int way) {
    SlotKeeper k = new SlotKeeper();
    PlainKeeper p = new PlainKeeper();
    crowd(k, p, drawn);
    for (int w = 0; w < 3; w++) due("day(" + drawn + ", " + n + ", " + way + ", " + w + ")", k.day(drawn, n, way, w), p.day(drawn, n, way, w));
  }

  static void p19_gaps_of_0() {
    for (int seed = 0; seed < 12; seed++) {
      SlotKeeper k = new SlotKeeper();
      PlainKeeper p = new PlainKeeper();
      rule(k, p, seed, 0, seed % 3);
      k.close(0, 30);
      p.close(0, 30);
      for (int way = 0; way < 4; way++) due("day(" + seed + ", 25, " + way + ", 0)", k.day(seed, 25, way, 0), p.day(seed, 25, way, 0));
    }
  }

  static void p19_one_day_doesnt_count_for_the_next() {
    SlotKeeper k = gapsOf(9);
    for (int w = 0; w < 3; w++) {
      check(k.day(3, 40, 0, w) > k.day(3, 2, 0, w), "a long DAY has more");
      k.day(3, 40, 1, w);
      due("day(3, 2, 0, " + w + ")", k.day(3, 2, 0, w), plainDay(3, 2, 9)[w]);
      k.day(3, 40, 1, w);
      due("day(3, 1, 0, " + w + ")", k.day(3, 1, 0, w), plainDay(3, 1, 9)[w]);
    }
  }

  static void p19_nothing_changes() {
    for (int way = 0; way < 4; way++) {
      int w = way;
      onlyAsks("day(5, 40, " + w + ", 0)", RICH, k -> k.day(5, 40, w, 0));
      onlyAsks("day(5, 40, " + w + ", 1)", FULL, k -> k.day(5, 40, w, 1));
    }
  }

  // "IllegalArgumentException: another COST."
  static void p20_another_cost_is_refused() {
    for (int cost : new int[] {-1, 3, MIN, MAX}) {
      refusedIae("best(" + cost + ")", RICH, k -> k.best(cost));
      refusedIae("best(" + cost + ") of nobody", EMPTY, k -> k.best(cost));
      refusedIae("best(" + cost + ") without BEST", HOPELESS, k -> k.best(cost));
    }
  }

  static void p20_without_craft_it_costs_0() {
    for (int cost = 0; cost < 3; cost++) {
      int c = cost;
      answersOnly("best(" + c + ")", EMPTY, 0, k -> k.best(c));
    }
  }

  // "NONE: there is none such."
  static void p20_none_where_none_holds() {
    for (int cost = 0; cost < 3; cost++) {
      int c = cost;
      answersOnly("best(" + c + ")", HOPELESS, -1, k -> k.best(c));
    }
    SlotKeeper k = three();
    k.change(0, 1, 10);
    k.change(1, 1, 12);
    due("best(0): 1 can't be at 13", k.best(0), -1);
    k.change(1, 1, 13);
    due("best(0): 0 1 2", k.best(0), 19);
  }

  static void p20_of_orders_shift_away_not_1_more() {
    // 3 is dear: each SHIFT more lets it go 1 place sooner
    int[] byShift = {189, 132, 75, 18};
    for (int shift = 0; shift < 4; shift++) {
      SlotKeeper k = alike(4, 10);
      k.change(3, 2, 20);
      k.rule(false, shift);
      due("best(0), SHIFT " + shift, k.best(0), byShift[shift]);
    }
    SlotKeeper five = alike(5, 10);
    five.change(4, 2, 20);
    five.rule(false, 3);
    due("best(0): it can't go 4 places sooner", five.best(0), 3 * 20 + 6 + 9 + 12);
  }

  static void p20_frozen_ones_stay_first() {
    SlotKeeper k = alike(3, 10);
    k.change(2, 2, 20);
    due("best(0)", k.best(0), 3 + 6);
    k.rule(true, 9);
    due("best(0), nobody FROZEN", k.best(0), 3 + 6);
    k.rule(true, 10);
    due("best(0), 0 FROZEN", k.best(0), 60 + 6);
    k.rule(true, 13);
    due("best(0), 0 and 1 FROZEN", k.best(0), 3 + 120);
    k.rule(true, 16);
    due("best(0), all FROZEN", k.best(0), 3 + 120);
  }

  static void p20_a_frozen_one_that_is_late_leaves_no_best() {
    SlotKeeper k = alike(2, 10);
    k.close(10, 15);
    k.change(0, 1, 15);
    k.rule(true, 15);
    due("best(0), 0 FROZEN at its LATEST", k.best(0), 5 + 8);
    k.change(0, 1, 14);
    for (int cost = 0; cost < 3; cost++) due("best(" + cost + "), 0 FROZEN and late", k.best(cost), -1);
  }

  static void p20_frozen_ones_may_leave_no_place_to_another() {
    SlotKeeper k = told("shift 1;freeze 0;craft lands 0 100 999 1;craft lands 0 110 999 1;craft lands 0 120 999 1;craft lands 0 130 999 1;");
    k.tell(2301);
    k.goOn(60);
    k.rule(true, 60);
    due("count(4): 2 at 120", k.count(4), 1);
    due("best(0): 0 at 1", k.best(0) >= 0 ? 1 : 0, 1);
    k.rule(true, 70);
    due("count(4): 2 and 3", k.count(4), 2);
    for (int cost = 0; cost < 3; cost++) due("best(" + cost + "): 0 is 2 away", k.best(cost), -1);
  }

  static void p20_now_and_those_done_hold_all_back() {
    SlotKeeper k = alike(2, 10);
    k.change(1, 2, 5);
    k.goOn(9);
    due("best(0), NOW 9", k.best(0), 3);
    k.rule(false, 0);
    k.goOn(10);
    due("count(0): 0 is DONE at 10", k.count(0), 1);
    due("best(0): 1 is at 13", k.best(0), 15);
    due("best(1)", k.best(1), 13);
    k.part(0, 0, 99);
    due("best(1), GAP 99", k.best(1), 109);
    k.part(0, 0, 0);
    k.goOn(10);
    k.come(0, 2, 50, 1);
    due("count(0)", k.count(0), 1);
    k.close(10, 30);
    k.goOn(20);
    due("best(1): 30 is open", k.best(1), 30);
    k.open(0);
    due("best(1): NOW 20", k.best(1), 20);
    due("best(2): READY 2", k.best(2), 18);
    k.change(0, 1, 19);
    due("best(2): it is late by NOW", k.best(2), -1);
  }

  static void p20_one_that_a_span_makes_late_leaves_no_best() {
    SlotKeeper k = alike(2, 10);
    k.close(12, 20);
    due("best(1): 10 and 20", k.best(1), 20);
    k.change(1, 1, 19);
    due("best(0): 1 is first", k.best(0), 10);
    k.change(0, 1, 19);
    for (int cost = 0; cost < 3; cost++) due("best(" + cost + "): one of both is late", k.best(cost), -1);
    k.change(0, 1, 20);
    due("best(0)", k.best(0), 10);
  }

  static void p20_asking_changes_nothing() {
    for (int cost = 0; cost < 3; cost++) {
      int c = cost;
      onlyAsks("best(" + c + ")", RICH, k -> k.best(c));
      onlyAsks("best(" + c + ")", FULL, k -> k.best(c));
    }
  }

  private static String bestOf(SlotKeeper k, int cost) {
    StringBuilder s = new StringBuilder();
    for (int p = 0; p < k.count(0); p++) s.append(k.bestAt(cost, p));
    return s.toString();
  }

  // "IllegalArgumentException: another COST. NoSuchElementException (behind that): no such place (none of the BOARD)."
  static void p21_another_cost_is_refused_first() {
    for (int cost : new int[] {-1, 3, MIN, MAX}) {
      refusedIae("bestAt(" + cost + ", 0)", RICH, k -> k.bestAt(cost, 0));
      refusedIae("bestAt(" + cost + ", 4)", RICH, k -> k.bestAt(cost, 4));
      refusedIae("bestAt(" + cost + ", 0) of nobody", EMPTY, k -> k.bestAt(cost, 0));
    }
  }

  static void p21_no_such_place_is_refused() {
    for (int place : new int[] {-1, 4, MIN, MAX}) refusedNse("bestAt(0, " + place + ")", RICH, k -> k.bestAt(0, place));
    refusedNse("bestAt(0, 10)", FULL, k -> k.bestAt(0, 10));
    refusedNse("bestAt(2, 0)", EMPTY, k -> k.bestAt(2, 0));
    due("bestAt(0, 0)", three().bestAt(0, 0), 1);
    due("bestAt(0, 2)", three().bestAt(0, 2), 2);
  }

  // "NONE: there is no BEST."
  static void p21_none_at_each_place_without_best() {
    for (int cost = 0; cost < 3; cost++)
      for (int place = 0; place < 3; place++) {
        int c = cost;
        int p = place;
        answersOnly("bestAt(" + c + ", " + p + ")", HOPELESS, -1, k -> k.bestAt(c, p));
      }
    for (int place : new int[] {-1, 3}) refusedNse("bestAt(0, " + place + ") without BEST", HOPELESS, k -> k.bestAt(0, place));
  }

  // "of several the first one (by numbers of CRAFT along it)"
  static void p21_of_several_the_first_by_numbers() {
    for (int cost = 0; cost < 3; cost++) same("BEST of ten alike", bestOf(alike(10, 7), cost), "0123456789");
    // by RANK 1 is ahead of 0, and all cost the same
    SlotKeeper k = told("freeze 0;craft lands 0 11 99 0;craft lands 0 10 99 0;craft lands 0 9 99 0;");
    same("BEST by WAITS of no WEIGHT", bestOf(k, 0), "012");
    k.rule(false, 1);
    // 2 must be first or second
    same("BEST by WAITS of no WEIGHT, SHIFT 1", bestOf(k, 0), "120");
    k.rule(false, 0);
    same("BEST by WAITS of no WEIGHT, SHIFT 0", bestOf(k, 0), "210");
    // the last one's SLOT is 109 whatever is ahead
    SlotKeeper end = told("freeze 0;shift 3;craft lands 0 12 99 1;craft lands 0 11 99 1;craft lands 0 10 99 9;craft lands 1 109 200 1;");
    same("BEST by the end", bestOf(end, 1), "0123");
    // 2 first, then 0 and 1 wait 1 and 5, or 4 and 2
    same("BEST by WAITS", bestOf(end, 0), "2013");
  }

  static void p21_of_several_not_the_first_if_it_is_late() {
    SlotKeeper k = alike(3, 7);
    k.change(2, 1, 12);
    same("BEST: 2 can't be last", bestOf(k, 0), "021");
    k.change(2, 1, 9);
    same("BEST: 2 must be first", bestOf(k, 0), "201");
    k.change(2, 1, 13);
    same("BEST: 2 may be last", bestOf(k, 0), "012");
  }

  // "How many ORDERS are ALLOWED (holding false), and HOLD (true)."
  static void p22_one_without_craft() {
    answersOnly("ways(false)", EMPTY, 1, k -> k.ways(false));
    answersOnly("ways(true)", EMPTY, 1, k -> k.ways(true));
    due("ways(false) of one", alike(1, 5).ways(false), 1);
  }

  static void p22_ways_of_ten_by_each_shift() {
    int[] byShift = {1, 89, 2177, 19708};
    for (int shift = 0; shift < 4; shift++) {
      SlotKeeper k = alike(10, 5);
      k.rule(false, shift);
      due("ways(false), SHIFT " + shift, k.ways(false), byShift[shift]);
      due("ways(true), SHIFT " + shift, k.ways(true), byShift[shift]);
    }
  }

  static void p22_none_holds() {
    answersOnly("ways(true)", HOPELESS, 0, k -> k.ways(true));
    answersOnly("ways(false)", HOPELESS, 6, k -> k.ways(false));
  }

  static void p22_those_at_latest_hold_those_1_above_dont() {
    SlotKeeper k = alike(3, 5);
    int[][] latestAndWays = {{5, 2}, {7, 2}, {8, 4}, {10, 4}, {11, 6}};
    for (int[] l : latestAndWays) {
      k.change(1, 1, l[0]);
      due("ways(true), LATEST " + l[0], k.ways(true), l[1]);
      due("ways(false)", k.ways(false), 6);
    }
  }

  static void p22_frozen_ones_stay_first() {
    SlotKeeper k = alike(4, 5);
    k.rule(false, 3);
    int[][] freezeAndWays = {{4, 24}, {5, 6}, {7, 6}, {8, 2}, {11, 1}, {14, 1}};
    for (int[] f : freezeAndWays) {
      k.rule(true, f[0]);
      due("ways(false), FREEZE " + f[0], k.ways(false), f[1]);
    }
    k.change(0, 1, 5);
    due("ways(true), 0 FROZEN at its LATEST", k.ways(true), 1);
    k.close(5, 6);
    due("ways(true), 0 FROZEN and late", k.ways(true), 0);
    due("ways(false), 0 FROZEN and late", k.ways(false), 1);
    onlyAsks("ways(true)", FULL, x -> x.ways(true));
    onlyAsks("ways(false)", RICH, x -> x.ways(false));
  }

  static void p22_none_where_frozen_ones_leave_no_place_to_another() {
    SlotKeeper k = told("shift 1;freeze 0;craft lands 0 100 999 1;craft lands 0 110 999 1;craft lands 0 120 999 1;craft lands 0 130 999 1;");
    k.tell(2301);
    k.goOn(60);
    k.rule(true, 60);
    due("ways(false), 2 FROZEN", k.ways(false), 1);
    due("ways(true), 2 FROZEN", k.ways(true), 1);
    k.rule(true, 70);
    due("ways(false), 2 and 3 FROZEN: 0 is 2 away", k.ways(false), 0);
    due("ways(true), 2 and 3 FROZEN: 0 is 2 away", k.ways(true), 0);
    k.rule(false, 2);
    due("ways(false), SHIFT 2: 0 may be at 2 alone", k.ways(false), 1);
    k.rule(true, 99);
    k.rule(false, 0);
    due("ways(false), all FROZEN", k.ways(false), 1);
  }

  static void p22_now_those_done_and_spans_are_asked() {
    SlotKeeper k = alike(3, 10);
    k.change(1, 1, 13);
    k.change(2, 1, 16);
    due("ways(true): 1 may not be last", k.ways(true), 4);
    k.goOn(10);
    due("ways(true), 0 DONE at 10: 13 and 16", k.ways(true), 1);
    k.close(13, 14);
    due("ways(true), 13 is CLOSED", k.ways(true), 0);
    due("ways(false)", k.ways(false), 2);
    SlotKeeper n = alike(2, 10);
    n.change(0, 1, 12);
    n.goOn(9);
    due("ways(true), NOW 9", n.ways(true), 1);
    n.close(9, 13);
    due("ways(true), CLOSED till 13", n.ways(true), 0);
  }

  // "WORTH of a SHIFT k (0 to 3) by COST 0; .. IllegalArgumentException: another k."
  static void p23_k_0_to_3() {
    int[] worths = {189, 132, 75, 18};
    for (int shift = 0; shift < 4; shift++) {
      SlotKeeper k = alike(4, 10);
      k.change(3, 2, 20);
      k.rule(false, shift);
      for (int w = 0; w < 4; w++) due("worth(" + w + "), SHIFT " + shift, k.worth(w), worths[w]);
      due("count(2)", k.count(2), shift);
    }
    for (int w : new int[] {-1, 4, MIN, MAX}) {
      refusedIae("worth(" + w + ")", RICH, k -> k.worth(w));
      refusedIae("worth(" + w + ") without BEST", HOPELESS, k -> k.worth(w));
    }
  }

  // "NONE: none HOLDS."
  static void p23_none_holds() {
    for (int w = 0; w < 4; w++) {
      int shift = w;
      answersOnly("worth(" + w + ")", HOPELESS, -1, k -> k.worth(shift));
      answersOnly("worth(" + w + ") of nobody", EMPTY, 0, k -> k.worth(shift));
      onlyAsks("worth(" + w + ")", FULL, k -> k.worth(shift));
    }
    SlotKeeper k = alike(3, 7);
    k.change(2, 1, 9);
    int[] worths = {-1, -1, 9, 9};
    for (int w = 0; w < 4; w++) due("worth(" + w + ")", k.worth(w), worths[w]);
  }

  // "IllegalArgumentException: another COST."
  static void p24_another_cost_is_refused() {
    for (int cost : new int[] {-1, 3, MIN, MAX}) {
      refusedIae("plan(" + cost + ")", RICH, k -> k.plan(cost));
      refusedIae("plan(" + cost + ") without BEST", HOPELESS, k -> k.plan(cost));
      refusedIae("plan(" + cost + ") of nobody", EMPTY, k -> k.plan(cost));
    }
  }

  // "NONE (nothing changes): there is none."
  static void p24_nothing_changes_without_best() {
    for (int cost = 0; cost < 3; cost++) {
      int c = cost;
      answersOnly("plan(" + c + ")", HOPELESS, -1, k -> k.plan(c));
    }
  }

  static void p24_the_same_plan_is_an_act() {
    for (int cost = 0; cost < 3; cost++) {
      SlotKeeper k = new SlotKeeper();
      due("plan(" + cost + ") of nobody", k.plan(cost), 0);
      due("count(7)", k.count(7), 1);
    }
    SlotKeeper k = alike(3, 7);
    due("plan(0)", k.plan(0), 9);
    due("plan(0)", k.plan(0), 9);
    same("THE PLAN", plan(k), "012");
    due("count(7)", k.count(7), 6);
  }

  static void p24_frozen_ones_stay_first() {
    SlotKeeper k = alike(4, 10);
    k.change(3, 2, 20);
    k.rule(false, 3);
    k.rule(true, 13);
    due("plan(0)", k.plan(0), 3 + 120 + 9);
    same("THE PLAN", plan(k), "0132");
    k.rule(true, 9);
    due("plan(0)", k.plan(0), 18);
    same("THE PLAN", plan(k), "3012");
  }

  // "THE PLAN becomes CRAFT by RANKS (FROZEN ones first, as they were): its COST 0."
  static void p25_of_nobody_is_an_act() {
    SlotKeeper k = new SlotKeeper();
    due("byRanks()", k.byRanks(), 0);
    due("count(7)", k.count(7), 1);
  }

  static void p25_where_all_is_as_it_was_is_an_act() {
    SlotKeeper k = alike(3, 7);
    due("byRanks()", k.byRanks(), 9);
    due("byRanks()", k.byRanks(), 9);
    due("count(7)", k.count(7), 6);
  }

  static void p25_frozen_ones_stay_first_as_they_were() {
    String[] plans = {"01234", "40123", "43012", "43201", "43210", "43210"};
    for (int frozen = 0; frozen <= 5; frozen++) {
      SlotKeeper k = alike(5, 10);
      k.tell(43210);
      k.rule(true, 10 + 3 * frozen - 3);
      due("count(4)", k.count(4), frozen);
      due("byRanks()", k.byRanks(), 30);
      same("THE PLAN, " + frozen + " FROZEN", plan(k), plans[frozen]);
    }
  }

  static void p25_neither_shift_nor_latest_is_asked() {
    SlotKeeper k = HOPELESS.make();
    k.tell(210);
    k.rule(false, 0);
    due("byRanks()", k.byRanks(), 19);
    same("THE PLAN", plan(k), "012");
    due("count(9)", k.count(9), 0);
  }

  static void p25_all_ten_the_other_way() {
    SlotKeeper k = new SlotKeeper();
    k.rule(true, 0);
    for (int i = 0; i < 10; i++) k.come(0, 100 - i, 1999, 1);
    k.byRanks();
    same("THE PLAN", plan(k), "9876543210");
    k.hurry(4, 1);
    k.byRanks();
    same("THE PLAN", plan(k), "4987653210");
  }

  private static void noOrder(Maker m, long order) {
    for (int what : new int[] {0, 3, 4, -1}) refusedIae("told(" + order + ", " + what + ")", m, k -> k.told(order, what));
    refusedIae("tell(" + order + ")", m, k -> k.tell(order) ? 1 : 0);
  }

  // "(each a CRAFT, all of them once, the first one highest; where CRAFT 0 is first there is one figure less)"
  static void p26_figures_of_no_order() {
    Maker m = Sentences::three;
    // one is missing, is there twice, isn't on the BOARD; one too many; both figures of 0 left out
    for (long order : new long[] {0, 1, 2, 10, 11, 22, 100, 101, 112, 122, 13, 103, 310, 999, 1012, 1102, 2100, 3012, 10012}) noOrder(m, order);
  }

  static void p26_numbers_below_0_are_no_order() {
    for (long order : new long[] {-1, -12, -102, -210, Long.MIN_VALUE}) noOrder(Sentences::three, order);
    for (long order : new long[] {-123456789L, -9876543210L}) noOrder(FULL, order);
    noOrder(EMPTY, -1);
    noOrder(() -> alike(1, 4), -1);
    for (long order : new long[] {-1, -10, -2}) noOrder(() -> alike(2, 4), order);
  }

  static void p26_a_long_doesnt_become_an_int() {
    for (long order : new long[] {Long.MAX_VALUE, (1L << 32) + 12, (1L << 32) + 102, (1L << 40) + 12}) noOrder(Sentences::three, order);
    noOrder(EMPTY, 1L << 32);
  }

  static void p26_nobody_is_told_by_0() {
    for (int what = 0; what < 4; what++) {
      int w = what;
      answersOnly("told(0, " + w + ")", EMPTY, w < 2 ? 0 : 1, k -> k.told(0, w));
    }
    noOrder(EMPTY, 1);
    noOrder(EMPTY, 10);
  }

  static void p26_one_is_told_by_0() {
    Maker one = () -> alike(1, 4);
    due("told(0, 1)", one.make().told(0, 1), 4);
    noOrder(one, 1);
    noOrder(one, 10);
    noOrder(one, 9);
  }

  static void p26_ten_are_told_by_ten_figures_or_nine() {
    SlotKeeper ten = alike(10, 1);
    due("told(9876543210, 1)", ten.told(9876543210L, 1), 28);
    due("told(123456789, 1)", ten.told(123456789L, 1), 28);
    due("told(1023456789, 3)", ten.told(1023456789L, 3), 1);
    due("told(987654321, 2): 0 is first", ten.told(987654321L, 2), 1);
    Maker m = () -> alike(10, 1);
    for (long order : new long[] {12345678L, 123456780L, 9876543211L, 1123456789L, 98765432100L, 10123456789L}) noOrder(m, order);
  }

  // "NoSuchElementException (behind that): another what."
  static void p26_another_what_is_refused_behind_that() {
    for (int what : new int[] {-1, 4, MIN, MAX}) refusedNse("told(2013, " + what + ")", RICH, k -> k.told(2013, what));
    refusedNse("told(0, 4) of nobody", EMPTY, k -> k.told(0, 4));
  }

  static void p26_each_what() {
    SlotKeeper k = three();
    k.rule(false, 1);
    k.change(0, 1, 17);
    int[][] all = {{19, 16, 1, 1}, {10, 16, 1, 1}, {2 * 8 + 5 * 5, 18, 0, 0}};
    long[] orders = {12, 102, 210};
    for (int i = 0; i < 3; i++) for (int w = 0; w < 4; w++) due("told(" + orders[i] + ", " + w + ")", k.told(orders[i], w), all[i][w]);
    k.change(0, 1, 18);
    due("told(210, 2), LATEST is its SLOT", k.told(210, 2), 1);
    due("told(201, 3): 2 is 2 away", k.told(201, 3), 0);
    k.rule(false, 2);
    due("told(201, 3): SHIFT 2", k.told(201, 3), 1);
  }

  static void p26_not_allowed_without_the_frozen_ones_first() {
    SlotKeeper k = three();
    k.rule(true, 9);
    due("told(102, 3), nobody FROZEN", k.told(102, 3), 1);
    k.rule(true, 10);
    due("told(102, 3), 0 FROZEN", k.told(102, 3), 0);
    due("told(21, 3), 0 FROZEN", k.told(21, 3), 1);
    k.rule(true, 13);
    due("told(102, 3), 0 and 1 FROZEN, not as in THE PLAN", k.told(102, 3), 0);
    due("told(12, 3)", k.told(12, 3), 1);
    for (int what = 0; what < 4; what++) {
      int w = what;
      onlyAsks("told(3210, " + w + ")", RICH, x -> x.told(3210, w));
      onlyAsks("told(9876543210, " + w + ")", FULL, x -> x.told(9876543210L, w));
    }
  }

  // "false (nothing changes): it doesn't begin with those that are FROZEN"
  static void p27_false_without_the_frozen_ones_first() {
    Maker one = () -> {
      SlotKeeper k = three();
      k.rule(true, 10);
      return k;
    };
    answersOnly("tell(102), 0 FROZEN", one, 0, k -> k.tell(102) ? 1 : 0);
    answersOnly("tell(201), 0 FROZEN", one, 0, k -> k.tell(201) ? 1 : 0);
    due("tell(21), 0 FROZEN", one.make().tell(21) ? 1 : 0, 1);
    Maker two = () -> {
      SlotKeeper k = three();
      k.rule(true, 13);
      return k;
    };
    answersOnly("tell(21), 0 and 1 FROZEN", two, 0, k -> k.tell(21) ? 1 : 0);
    answersOnly("tell(102), 0 and 1 FROZEN", two, 0, k -> k.tell(102) ? 1 : 0);
    due("tell(12), 0 and 1 FROZEN", two.make().tell(12) ? 1 : 0, 1);
    answersOnly("tell(123456798), 0 and 1 FROZEN", FULL, 0, k -> k.tell(1023456798L) ? 1 : 0);
    due("tell(198765432), 0 and 1 FROZEN", FULL.make().tell(198765432L) ? 1 : 0, 1);
  }

  static void p27_the_last_of_the_frozen_ones_counts_the_next_doesnt() {
    SlotKeeper k = alike(3, 10);
    k.rule(true, 12);
    due("tell(21): 1 at 13 isn't FROZEN", k.tell(21) ? 1 : 0, 1);
    k.rule(true, 13);
    due("tell(12): 2 at 13 is", k.tell(12) ? 1 : 0, 0);
    same("THE PLAN", plan(k), "021");
  }

  static void p27_the_same_order_is_an_act() {
    SlotKeeper k = new SlotKeeper();
    due("tell(0) of nobody", k.tell(0) ? 1 : 0, 1);
    due("count(7)", k.count(7), 1);
    SlotKeeper r = RICH.make();
    due("tell(2013)", r.tell(2013) ? 1 : 0, 1);
    due("count(7)", r.count(7), 12);
  }

  static void p27_neither_shift_nor_latest_is_asked() {
    SlotKeeper k = HOPELESS.make();
    k.rule(false, 0);
    due("tell(210)", k.tell(210) ? 1 : 0, 1);
    same("THE PLAN", plan(k), "210");
    due("count(9)", k.count(9), 0);
    due("count(10)", k.count(10), 0);
  }

  // "NoSuchElementException: no such CRAFT."
  static void p28_no_such_craft_is_refused() {
    for (int c : new int[] {-1, 4, MIN, MAX}) refusedNse("putIn(" + c + ")", RICH, k -> k.putIn(c));
    refusedNse("putIn(10)", FULL, k -> k.putIn(10));
    refusedNse("putIn(0)", EMPTY, k -> k.putIn(0));
  }

  // "NONE (nothing changes): it is FROZEN"
  static void p28_a_frozen_one_isnt_put_in() {
    Maker two = () -> {
      SlotKeeper k = alike(3, 10);
      k.change(2, 2, 20);
      k.rule(true, 13);
      return k;
    };
    answersOnly("putIn(0)", two, -1, k -> k.putIn(0));
    answersOnly("putIn(1), its SLOT is NOW and FREEZE", two, -1, k -> k.putIn(1));
    due("putIn(2)", two.make().putIn(2), 2);
    SlotKeeper k = two.make();
    k.rule(true, 12);
    due("putIn(1), its SLOT is 1 later", k.putIn(1), 2);
    answersOnly("putIn(0)", FULL, -1, f -> f.putIn(0));
    answersOnly("putIn(1)", FULL, -1, f -> f.putIn(1));
  }

  // "by none it HOLDS"
  static void p28_by_none_it_holds() {
    for (int c = 0; c < 3; c++) {
      int craft = c;
      answersOnly("putIn(" + c + ")", HOPELESS, -1, k -> k.putIn(craft));
    }
  }

  static void p28_places_where_it_holds_at_latest_not_1_above() {
    int[][] latestAndPlace = {{5, 1}, {7, 1}, {8, 0}, {9, 0}};
    for (int[] l : latestAndPlace) {
      SlotKeeper k = alike(3, 5);
      k.change(0, 1, l[0]);
      due("putIn(2), LATEST of 0 is " + l[0], k.putIn(2), l[1]);
    }
    SlotKeeper own = alike(3, 5);
    own.tell(201);
    own.change(0, 2, 20);
    own.change(1, 2, 20);
    due("putIn(2): last is least", own.putIn(2), 2);
    own.change(2, 1, 10);
    due("putIn(2): last is late", own.putIn(2), 1);
    own.change(2, 1, 7);
    due("putIn(2): it must be first", own.putIn(2), 0);
  }

  // "of several the first place"
  static void p28_of_several_the_first_place() {
    SlotKeeper k = alike(10, 7);
    due("putIn(9)", k.putIn(9), 0);
    same("THE PLAN", plan(k), "9012345678");
    due("putIn(5)", k.putIn(5), 0);
    same("THE PLAN", plan(k), "5901234678");
    due("putIn(5)", k.putIn(5), 0);
    due("count(7): where it was is an ACT, too", k.count(7), 14);
  }

  // "(behind all FROZEN ones; the others in their order)", "SHIFT isn't asked"
  static void p28_behind_all_frozen_ones_far_from_its_rank() {
    SlotKeeper k = alike(10, 7);
    k.change(9, 2, 20);
    k.rule(false, 0);
    k.rule(true, 10);
    due("putIn(9)", k.putIn(9), 2);
    same("THE PLAN", plan(k), "0192345678");
    due("count(10)", k.count(10), 0);
  }

  static void p28_the_only_one() {
    SlotKeeper k = alike(1, 7);
    due("putIn(0)", k.putIn(0), 0);
    due("count(7)", k.count(7), 3);
    k.rule(true, 7);
    due("putIn(0), FROZEN", k.putIn(0), -1);
  }

  // "NONE (nothing changes): none can."
  static void p29_none_can_trade() {
    answersOnly("trade() of nobody", EMPTY, -1, SlotKeeper::trade);
    answersOnly("trade() of one", () -> alike(1, 5), -1, SlotKeeper::trade);
    answersOnly("trade() of those alike", () -> alike(10, 5), -1, SlotKeeper::trade);
    answersOnly("trade() where none HOLDS", HOPELESS, -1, SlotKeeper::trade);
  }

  // "if that is less than it is"
  static void p29_less_not_equal() {
    SlotKeeper k = alike(2, 5);
    due("trade(), alike", k.trade(), -1);
    k.change(1, 2, 2);
    due("trade(), 3 instead of 6", k.trade(), 0);
    due("trade(), 6 instead of 3", k.trade(), -1);
  }

  // "the one by which COST 0 becomes least .. (of several the first)"
  static void p29_the_least_and_of_several_the_first() {
    SlotKeeper k = alike(4, 5);
    k.change(1, 2, 2);
    k.change(3, 2, 2);
    due("trade(): both couples win 3", k.trade(), 0);
    same("THE PLAN", plan(k), "1023");
    due("trade()", k.trade(), 2);
    same("THE PLAN", plan(k), "1032");
    SlotKeeper last = alike(10, 5);
    last.change(1, 2, 2);
    last.change(9, 2, 3);
    due("trade(): the last couple wins more", last.trade(), 8);
  }

  // "none of them FROZEN"
  static void p29_none_of_them_frozen() {
    SlotKeeper k = alike(3, 10);
    k.change(1, 2, 5);
    k.change(2, 2, 7);
    k.rule(true, 10);
    due("trade(): 0 is FROZEN", k.trade(), 1);
    k.undo();
    k.rule(true, 13);
    due("trade(): 0 and 1 are FROZEN", k.trade(), -1);
    k.rule(true, 9);
    due("trade(): nobody is", k.trade(), 0);
  }

  // "so that it is ALLOWED and HOLDS"
  static void p29_allowed_shift_away_not_1_more() {
    SlotKeeper k = alike(3, 10);
    k.change(2, 2, 20);
    k.rule(false, 0);
    due("trade(), SHIFT 0", k.trade(), -1);
    k.rule(false, 1);
    due("trade(), SHIFT 1", k.trade(), 1);
    due("trade(): 2 would be 2 away", k.trade(), -1);
    k.rule(false, 2);
    due("trade(), SHIFT 2", k.trade(), 0);
    same("THE PLAN", plan(k), "201");
  }

  static void p29_a_plan_that_isnt_allowed_may_become_so_or_not() {
    SlotKeeper k = alike(4, 10);
    k.change(1, 2, 9);
    k.rule(false, 0);
    k.tell(231);
    due("trade(): not yet ALLOWED by one", k.trade(), -1);
    k.tell(1023);
    k.change(0, 2, 10);
    due("trade(): ALLOWED then", k.trade(), 0);
    due("count(10)", k.count(10), 1);
  }

  static void p29_it_holds_at_latest_not_1_above() {
    SlotKeeper k = alike(2, 5);
    k.change(1, 2, 9);
    k.change(0, 1, 7);
    due("trade(), 0 at 8 would be late", k.trade(), -1);
    k.change(0, 1, 8);
    due("trade(), 0 at 8", k.trade(), 0);
    SlotKeeper late = alike(3, 5);
    late.change(2, 2, 9);
    late.change(1, 1, 5);
    due("trade(): 1 is late by all others", late.trade(), -1);
  }

  static void p29_it_may_mend_a_plan_that_doesnt_hold() {
    SlotKeeper k = alike(2, 5);
    k.change(1, 1, 6);
    k.change(1, 2, 2);
    due("count(9)", k.count(9), 0);
    due("trade()", k.trade(), 0);
    due("count(9)", k.count(9), 1);
  }

  public static void main(String[] args) throws Exception {
    runAll(BoundaryOrderTest.class, 18, 29);
  }
}
