import java.util.ArrayList;
import java.util.List;

/** Promises 30 to 37: going around, time, those DONE, HOLES, sums by SORT, undoing, what is SAID. */
public final class BoundaryTimeTest extends Sentences {
  private static final int MIN = Integer.MIN_VALUE;
  private static final int MAX = Integer.MAX_VALUE;

  // "NoSuchElementException: no such CRAFT. IllegalArgumentException (behind that): d."
  static void p30_no_such_craft_is_refused_first() {
    for (int c : new int[] {-1, 4, MIN, MAX}) {
      refusedNse("around(" + c + ", 5)", RICH, k -> k.around(c, 5));
      refusedNse("around(" + c + ", 0)", RICH, k -> k.around(c, 0));
    }
    refusedNse("around(10, 5)", FULL, k -> k.around(10, 5));
  }

  // "GOES AROUND by d (1 to 99)"
  static void p30_d_1_to_99() {
    due("around(0, 1)", three().around(0, 1), 11);
    due("around(0, 99)", three().around(0, 99), 109);
    for (int d : new int[] {0, -1, 100, MIN, MAX}) {
      refusedIae("around(0, " + d + ")", RICH, k -> k.around(0, d));
      refusedIae("around(2, " + d + "), which leaves", RICH, k -> k.around(2, d));
    }
  }

  // "NONE (nothing changes): it leaves."
  static void p30_one_that_leaves_doesnt() {
    answersOnly("around(2, 5)", RICH, -1, k -> k.around(2, 5));
    for (int sort = 0; sort < 8; sort++) {
      SlotKeeper k = new SlotKeeper();
      k.come(sort, 10, 99, 1);
      due("around of SORT " + sort, k.around(0, 5), sort % 2 == 1 ? -1 : 15);
      due("count(7)", k.count(7), sort % 2 == 1 ? 1 : 2);
    }
  }

  // "READY becomes its SLOT and d, together (999 at most)"
  static void p30_ready_is_its_slot_and_d() {
    SlotKeeper k = three();
    due("around(1, 5): its SLOT is 13, its READY 10", k.around(1, 5), 18);
    due("craft(1, 1)", k.craft(1, 1), 18);
  }

  static void p30_ready_is_999_at_most() {
    int[][] readyAndThen = {{899, 998}, {900, 999}, {901, 999}, {999, 999}};
    for (int[] r : readyAndThen) {
      SlotKeeper k = new SlotKeeper();
      k.come(0, r[0], 1500, 1);
      due("around(0, 99), READY " + r[0], k.around(0, 99), r[1]);
    }
    SlotKeeper late = new SlotKeeper();
    late.close(900, 1500);
    late.come(0, 950, 1600, 1);
    due("around(0, 1), its SLOT is 1500", late.around(0, 1), 999);
    due("craft(0, 6)", late.craft(0, 6), 1500);
  }

  // "LATEST d more (no less than READY; 1999 at most)"
  static void p30_latest_is_d_more_1999_at_most() {
    int[][] latestAndThen = {{1899, 1998}, {1900, 1999}, {1901, 1999}, {1999, 1999}};
    for (int[] l : latestAndThen) {
      SlotKeeper k = new SlotKeeper();
      k.come(0, 10, l[0], 1);
      k.around(0, 99);
      due("craft(0, 2), LATEST " + l[0], k.craft(0, 2), l[1]);
    }
    SlotKeeper k = three();
    k.around(0, 1);
    due("craft(0, 2)", k.craft(0, 2), 101);
  }

  static void p30_latest_is_no_less_than_ready() {
    // SLOT 20: READY 25 then, LATEST 5 more
    int[][] latestAndThen = {{10, 25}, {19, 25}, {20, 25}, {21, 26}};
    for (int[] l : latestAndThen) {
      SlotKeeper k = new SlotKeeper();
      k.goOn(20);
      k.come(0, 10, l[0], 1);
      due("around(0, 5)", k.around(0, 5), 25);
      due("craft(0, 2), LATEST " + l[0], k.craft(0, 2), l[1]);
    }
  }

  // "and it comes to THE PLAN's end"
  static void p30_it_comes_to_the_plans_end() {
    String[] plans = {"1230", "0231", "0132", "0123"};
    for (int c = 0; c < 4; c++) {
      SlotKeeper k = alike(4, 10);
      k.around(c, 1);
      same("THE PLAN, " + c + " gone around", plan(k), plans[c]);
      due("count(0)", k.count(0), 4);
    }
  }

  static void p30_a_frozen_one_and_a_hurried_one_may() {
    SlotKeeper k = alike(3, 10);
    k.rule(true, 99);
    k.hurry(0, 1);
    due("around(0, 5)", k.around(0, 5), 15);
    same("THE PLAN", plan(k), "120");
    due("craft(0, 11)", k.craft(0, 11), 1);
  }

  // "Time GOES ON to t (no sooner than NOW, 1999 at most)", "IllegalArgumentException: t."
  static void p31_t_from_now_to_1999() {
    SlotKeeper k = three();
    due("goOn(5)", k.goOn(5), 0);
    due("goOn(5): NOW", k.goOn(5), 0);
    iae("goOn(4)", k, x -> x.goOn(4));
    due("goOn(1999)", k.goOn(1999), 3);
    due("goOn(1999)", k.goOn(1999), 0);
    iae("goOn(1998)", k, x -> x.goOn(1998));
    due("count(1)", k.count(1), 1999);
    due("count(7)", k.count(7), 4);
    due("goOn(0) of a new one", new SlotKeeper().goOn(0), 0);
    for (int t : new int[] {-1, 1, 2000, MIN, MAX}) refusedIae("goOn(" + t + "), NOW 2", RICH, x -> x.goOn(t));
    for (int t : new int[] {-1, 69, 2000}) refusedIae("goOn(" + t + "), NOW 70", FULL, x -> x.goOn(t));
    refusedIae("goOn(-1)", EMPTY, x -> x.goOn(-1));
  }

  // "CRAFT at the front of THE PLAN whose SLOTS (as they were ahead of it) are t or less are DONE with these"
  static void p31_those_at_t_are_done_not_1_later() {
    int[][] timeAndDone = {{9, 0}, {10, 1}, {12, 1}, {13, 2}, {15, 2}, {16, 3}};
    for (int[] t : timeAndDone) {
      SlotKeeper k = three();
      due("goOn(" + t[0] + ")", k.goOn(t[0]), t[1]);
      due("count(0)", k.count(0), 3 - t[1]);
      due("count(5)", k.count(5), t[1]);
      due("count(1)", k.count(1), t[0]);
    }
  }

  static void p31_slots_are_those_ahead_of_it() {
    SlotKeeper k = three();
    due("goOn(500)", k.goOn(500), 3);
    for (int i = 0; i < 3; i++) due("done(" + i + ", 1)", k.done(i, 1), 16 - 3 * i);
    // one that isn't DONE has a SLOT by NOW and those DONE
    SlotKeeper r = three();
    r.goOn(14);
    due("craft(0, 6)", r.craft(0, 6), 16);
    r.goOn(15);
    due("craft(0, 6)", r.craft(0, 6), 16);
  }

  static void p31_those_behind_have_numbers_less_by_1() {
    SlotKeeper k = alike(4, 10);
    k.hurry(1, 1);
    k.change(3, 2, 9);
    k.tell(2013);
    due("goOn(13): 2 and 0", k.goOn(13), 2);
    same("THE PLAN", plan(k), "01");
    due("craft(0, 11)", k.craft(0, 11), 1);
    due("craft(1, 3)", k.craft(1, 3), 9);
  }

  static void p31_one_beyond_1999_is_never_done() {
    SlotKeeper k = alike(2, 10);
    k.close(0, 1999);
    same("SLOTS", slots(k), "1999 2002");
    due("goOn(1998)", k.goOn(1998), 0);
    due("goOn(1999)", k.goOn(1999), 1);
    due("goOn(1999)", k.goOn(1999), 0);
    due("craft(0, 6)", k.craft(0, 6), 2002);
    iae("goOn(2002)", k, x -> x.goOn(2002));
  }

  static void p31_ten_and_those_at_the_same_time_are_done_at_once() {
    SlotKeeper k = alike(10, 10);
    k.part(0, 0, 0);
    due("goOn(9)", k.goOn(9), 0);
    due("goOn(10)", k.goOn(10), 10);
    due("count(0)", k.count(0), 0);
    SlotKeeper f = FULL.make();
    due("goOn(108)", f.goOn(108), 10);
    due("count(5)", f.count(5), 20);
    due("done(9, 1)", f.done(9, 1), 71);
  }

  // "NoSuchElementException: there is none such, another what."
  static void p32_none_such_is_refused() {
    for (int i : new int[] {-1, 1, 20, MIN, MAX}) refusedNse("done(" + i + ", 0)", RICH, k -> k.done(i, 0));
    refusedNse("done(20, 0)", FULL, k -> k.done(20, 0));
    refusedNse("done(0, 0)", EMPTY, k -> k.done(0, 0));
  }

  static void p32_another_what_is_refused() {
    for (int what : new int[] {-1, 3, MIN, MAX}) refusedNse("done(0, " + what + ")", RICH, k -> k.done(0, what));
    for (int what = 0; what < 3; what++) {
      int w = what;
      onlyAsks("done(0, " + w + ")", RICH, k -> k.done(0, w));
    }
  }

  // "DONE are the latest 20.", "(0: the latest one)"
  static void p32_the_latest_20_the_latest_first() {
    for (int many : new int[] {19, 20, 21, 45}) {
      SlotKeeper k = new SlotKeeper();
      for (int i = 0; i < many; i++) {
        k.goOn(100 + 4 * i);
        k.come(i % 8, i, 1999, 1);
        k.goOn(100 + 4 * i);
      }
      int kept = Math.min(20, many);
      due("count(5)", k.count(5), kept);
      for (int i = 0; i < kept; i++) {
        int number = many - 1 - i;
        due("done(" + i + ", 0) of " + many, k.done(i, 0), number % 8);
        due("done(" + i + ", 1) of " + many, k.done(i, 1), 100 + 4 * number);
        due("done(" + i + ", 2) of " + many, k.done(i, 2), 100 + 3 * number);
      }
      nse("done(" + kept + ", 0)", k, x -> x.done(kept, 0));
    }
  }

  static void p32_those_forgotten_hold_nobody() {
    SlotKeeper k = new SlotKeeper();
    k.part(0, 1, 99);
    k.part(0, 2, 0);
    k.part(2, 2, 0);
    k.part(2, 1, 0);
    k.come(0, 0, 9, 1);
    k.goOn(0);
    for (int i = 0; i < 19; i++) {
      k.come(2, 0, 1999, 1);
      k.goOn(0);
    }
    due("count(5)", k.count(5), 20);
    k.come(1, 0, 1999, 1);
    due("craft(0, 6): the first one is one of 20", k.craft(0, 6), 99);
    due("hole(1, 0)", k.hole(1, 0) >= 99 ? 1 : 0, 1);
    k.come(2, 0, 1999, 1);
    k.tell(10);
    due("goOn(0)", k.goOn(0), 1);
    due("craft(0, 6): it is forgotten", k.craft(0, 6), 0);
    k.undo();
    due("craft(0, 6): undone", k.craft(0, 6), 99);
  }

  // "NoSuchElementException: no such SORT. IllegalArgumentException (behind that): the time."
  static void p33_no_such_sort_is_refused_first() {
    for (int sort : new int[] {-1, 8, MIN, MAX}) {
      refusedNse("hole(" + sort + ", 0)", RICH, k -> k.hole(sort, 0));
      refusedNse("hole(" + sort + ", -1)", RICH, k -> k.hole(sort, -1));
      refusedNse("hole(" + sort + ", 2000)", RICH, k -> k.hole(sort, 2000));
    }
  }

  // "from a time on (0 to 1999)"
  static void p33_a_time_0_to_1999() {
    for (int sort = 0; sort < 8; sort++) {
      due("hole(" + sort + ", 0)", new SlotKeeper().hole(sort, 0), 0);
      due("hole(" + sort + ", 1999)", new SlotKeeper().hole(sort, 1999), 1999);
    }
    for (int from : new int[] {-1, 2000, MIN, MAX}) refusedIae("hole(0, " + from + ")", RICH, k -> k.hole(0, from));
    onlyAsks("hole(0, 0)", FULL, k -> k.hole(0, 0));
  }

  // "the least time from then on, NOW or later"
  static void p33_now_or_later() {
    SlotKeeper k = new SlotKeeper();
    k.goOn(50);
    due("hole(0, 49)", k.hole(0, 49), 50);
    due("hole(0, 50)", k.hole(0, 50), 50);
    due("hole(0, 51)", k.hole(0, 51), 51);
    k.goOn(1999);
    due("hole(0, 0)", k.hole(0, 0), 1999);
  }

  // "not in a CLOSED span"
  static void p33_not_from_a_on_ahead_of_b() {
    SlotKeeper k = new SlotKeeper();
    k.close(30, 40);
    k.close(20, 30);
    int[][] fromAndHole = {{19, 19}, {20, 40}, {29, 40}, {30, 40}, {39, 40}, {40, 40}, {41, 41}};
    for (int[] f : fromAndHole) due("hole(0, " + f[0] + ")", k.hole(0, f[0]), f[1]);
  }

  // "1999 at most"
  static void p33_none_beyond_1999() {
    SlotKeeper k = new SlotKeeper();
    k.close(0, 1999);
    due("hole(0, 0)", k.hole(0, 0), 1999);
    k.come(0, 0, 1999, 1);
    due("hole(0, 0): one is at 1999", k.hole(0, 0), -1);
    due("hole(0, 1999)", k.hole(0, 1999), -1);
    k.part(0, 0, 0);
    due("hole(0, 0): no GAP", k.hole(0, 0), 1999);
    k.part(0, 0, 3);
    k.goOn(1999);
    due("hole(0, 0): it is DONE", k.hole(0, 0), -1);
    SlotKeeper near = new SlotKeeper();
    near.goOn(1996);
    near.come(0, 0, 1999, 1);
    due("hole(0, 1990): 1996 and 3", near.hole(0, 1990), 1999);
    near.part(0, 0, 4);
    due("hole(0, 1990): 1996 and 4", near.hole(0, 1990), -1);
  }

  static void p33_one_whose_slot_is_beyond_1999_counts() {
    SlotKeeper k = new SlotKeeper();
    k.part(0, 0, 5);
    k.part(0, 2, 0);
    k.close(0, 1999);
    k.come(0, 0, 1999, 1);
    k.come(0, 0, 1999, 1);
    same("SLOTS", slots(k), "1999 2004");
    k.part(2, 0, 5);
    due("hole(2, 0): 5 ahead of 2004", k.hole(2, 0), 1999);
    k.part(2, 0, 6);
    due("hole(2, 0): not 6 ahead of 2004", k.hole(2, 0), -1);
  }

  // "whose SLOT is no later, at least the GAP of that SORT and it behind that"
  static void p33_the_gap_behind_one_whose_slot_is_no_later() {
    SlotKeeper k = new SlotKeeper();
    k.part(0, 2, 7);
    k.part(2, 0, 0);
    k.come(0, 10, 99, 1);
    due("hole(2, 9): the one at 10 is later", k.hole(2, 9), 9);
    due("hole(2, 10): the one at 10 is no later", k.hole(2, 10), 17);
    due("hole(2, 16)", k.hole(2, 16), 17);
    due("hole(2, 18)", k.hole(2, 18), 18);
    k.part(0, 2, 0);
    due("hole(2, 10), GAP 0", k.hole(2, 10), 10);
    k.part(0, 2, 99);
    due("hole(2, 10), GAP 99", k.hole(2, 10), 109);
  }

  // "for each whose SLOT is later, at least the GAP the other way ahead of that"
  static void p33_the_gap_ahead_of_one_whose_slot_is_later() {
    SlotKeeper k = new SlotKeeper();
    k.part(2, 0, 7);
    k.part(0, 2, 1);
    k.come(0, 20, 99, 1);
    due("hole(2, 12)", k.hole(2, 12), 12);
    due("hole(2, 13): 7 ahead", k.hole(2, 13), 13);
    due("hole(2, 14): 6 ahead", k.hole(2, 14), 21);
    k.part(2, 0, 0);
    due("hole(2, 19), GAP 0", k.hole(2, 19), 19);
    k.part(2, 0, 99);
    due("hole(2, 0), GAP 99", k.hole(2, 0), 21);
  }

  static void p33_each_of_the_plan_and_of_those_done_counts() {
    SlotKeeper k = three();
    // 10 L0, 13 L1, 16 T0
    due("hole(0, 7)", k.hole(0, 7), 7);
    due("hole(0, 8)", k.hole(0, 8), 19);
    k.part(0, 6, 30);
    due("hole(6, 8): 10 and 30", k.hole(6, 8), 40);
    k.goOn(10);
    due("hole(6, 8): 10 and 30 of one DONE", k.hole(6, 8), 40);
    k.goOn(16);
    due("hole(6, 8): of the first one DONE", k.hole(6, 8), 40);
    due("hole(0, 0)", k.hole(0, 0), 19);
  }

  static void p33_between_two() {
    SlotKeeper k = told("freeze 0;craft lands 0 10 99 1;craft lands 0 16 99 1;craft lands 0 21 99 1;");
    due("hole(0, 8): 3 behind 10, 3 ahead of 16", k.hole(0, 8), 13);
    due("hole(0, 14): none between 16 and 21", k.hole(0, 14), 24);
    k.part(0, 0, 4);
    due("hole(0, 8), GAP 4", k.hole(0, 8), 25);
    k.close(13, 14);
    k.part(0, 0, 3);
    due("hole(0, 8), 13 is CLOSED", k.hole(0, 8), 24);
  }

  // "NoSuchElementException: no such SORT, another what."
  static void p34_no_such_sort_or_what_is_refused() {
    for (int sort : new int[] {-2, 8, MIN, MAX}) refusedNse("sorted(" + sort + ", 0)", RICH, k -> k.sorted(sort, 0));
    for (int what : new int[] {-1, 3, MIN, MAX}) {
      refusedNse("sorted(0, " + what + ")", RICH, k -> k.sorted(0, what));
      refusedNse("sorted(-1, " + what + ")", RICH, k -> k.sorted(-1, what));
    }
  }

  // "(sort NONE: all)", "(2; 0 without)"
  static void p34_all_and_none_of_a_sort() {
    for (int sort = -1; sort < 8; sort++)
      for (int what = 0; what < 3; what++) due("sorted(" + sort + ", " + what + ") of nobody", new SlotKeeper().sorted(sort, what), 0);
    SlotKeeper k = three();
    k.come(6, 10, 999, 1);
    k.come(7, 10, 999, 1);
    // WAITS 0, 3, 4, 9, 12
    int[][] all = {{5, 28, 12}, {1, 0, 0}, {1, 4, 4}, {1, 3, 3}, {0, 0, 0}, {0, 0, 0}, {0, 0, 0}, {1, 9, 9}, {1, 12, 12}};
    for (int sort = -1; sort < 8; sort++)
      for (int what = 0; what < 3; what++) due("sorted(" + sort + ", " + what + ")", k.sorted(sort, what), all[sort + 1][what]);
    due("sorted(-1, 0) of ten", FULL.make().sorted(-1, 0), 10);
  }

  static void p34_the_first_ones_wait_counts_as_it_is_now() {
    SlotKeeper k = three();
    k.close(10, 30);
    due("sorted(0, 2)", k.sorted(0, 2), 20);
    k.close(30, 31);
    due("sorted(0, 1)", k.sorted(0, 1), 21);
    k.undo();
    k.undo();
    due("sorted(0, 2)", k.sorted(0, 2), 0);
    k.goOn(9);
    k.come(4, 0, 99, 1);
    k.tell(3012);
    due("sorted(-1, 2): the first one waits longest", k.sorted(-1, 2), 9);
    due("sorted(4, 2)", k.sorted(4, 2), 9);
  }

  static void p34_those_done_dont_count() {
    SlotKeeper k = three();
    k.goOn(13);
    due("sorted(-1, 0)", k.sorted(-1, 0), 1);
    due("sorted(0, 0)", k.sorted(0, 0), 0);
    due("sorted(-1, 1)", k.sorted(-1, 1), 4);
    onlyAsks("sorted(-1, 2)", RICH, x -> x.sorted(-1, 2));
  }

  // "how many are kept then; NONE: none was."
  static void p35_none_was_kept() {
    answersOnly("undo()", EMPTY, -1, SlotKeeper::undo);
    Maker told = Sentences::three;
    answersOnly("undo() behind a board", told, -1, SlotKeeper::undo);
  }

  // "all is as it was ahead of it"
  static void p35_each_kind_of_act_is_undone() {
    Call[] acts = {
      k -> k.come(5, 1, 2, 3), k -> k.go(0), k -> k.go(3), k -> k.change(1, 0, 200), k -> k.change(1, 1, 200),
      k -> k.change(1, 2, 20), k -> k.hurry(2, 0), k -> k.hurry(0, 1), k -> k.part(3, 3, 77), k -> k.rule(false, 0),
      k -> k.rule(true, 99), k -> k.close(1, 2), k -> k.open(0), k -> k.plan(0), k -> k.plan(1), k -> k.plan(2),
      k -> k.byRanks(), k -> k.tell(3210) ? 1 : 0, k -> k.putIn(3), k -> k.around(3, 99), k -> k.goOn(2), k -> k.goOn(12),
      k -> k.goOn(1999)};
    for (int i = 0; i < acts.length; i++) {
      Call act = acts[i];
      onlyAsks("ACT " + i + " and undo()", RICH, k -> {
        act.on(k);
        due("count(7)", k.count(7), 12);
        return k.undo();
      });
    }
    onlyAsks("trade() and undo()", Sentences::three, k -> k.trade() + k.undo());
  }

  static void p35_each_act_of_a_full_board_is_undone() {
    Call[] acts = {
      k -> k.go(0), k -> k.go(9), k -> k.change(5, 0, 0), k -> k.hurry(9, 0), k -> k.part(0, 0, 0), k -> k.open(0),
      k -> k.open(3), k -> k.plan(0), k -> k.byRanks(), k -> k.tell(198765432L) ? 1 : 0, k -> k.putIn(9),
      k -> k.around(8, 5), k -> k.goOn(100), k -> k.goOn(1999)};
    String before = state(FULL.make());
    for (int i = 0; i < acts.length; i++) {
      SlotKeeper k = FULL.make();
      acts[i].on(k);
      due("count(7)", k.count(7), 16);
      due("undo()", k.undo(), 15);
      same("the BOARD after ACT " + i + " and undo()", state(k), before);
    }
  }

  // "(but the tape, fault(), what was SAID)"
  static void p35_the_tape_the_fault_and_what_was_said_stay() {
    SlotKeeper k = three();
    k.go(0);
    feed(k, "shift 1;");
    k.say();
    k.undo();
    due("count(8)", k.count(8), 20);
    due("said(1)", k.said(1), '1');
    due("said(0)", k.said(0), 'L');
    due("said(16)", k.said(16), -1);
    due("board(8)", k.board(8), 0);
    k.come(0, 1, 1, 1);
    due("board with a FAULT", read(k, "shift 7;"), 2);
    due("undo()", k.undo(), 0);
    due("fault()", k.fault(), 6);
    due("count(8)", k.count(8), 0);
    due("count(0)", k.count(0), 0);
  }

  // "at most 16 are kept, the latest ones", "They are UNDONE, the last one first"
  static void p35_16_are_undone_the_last_one_first() {
    SlotKeeper k = new SlotKeeper();
    for (int i = 0; i < 16; i++) k.rule(true, 20 + i);
    for (int i = 15; i >= 0; i--) {
      due("undo()", k.undo(), i);
      due("count(3)", k.count(3), i == 0 ? 10 : 19 + i);
    }
    due("undo()", k.undo(), -1);
    SlotKeeper m = new SlotKeeper();
    for (int i = 0; i < 17; i++) m.rule(true, 20 + i);
    for (int i = 15; i >= 0; i--) due("undo()", m.undo(), i);
    due("undo(): the 17th is gone", m.undo(), -1);
    due("count(3)", m.count(3), 20);
  }

  static void p35_acts_and_undoing_in_turns() {
    SlotKeeper k = new SlotKeeper();
    List<Integer> were = new ArrayList<>();
    int freeze = 10;
    for (int i = 0; i < 160; i++) {
      if (i % 37 < 22 ? i % 5 != 4 : i % 5 == 4) {
        were.add(freeze);
        if (were.size() > 16) were.remove(0);
        freeze = i % 100;
        k.rule(true, freeze);
      } else {
        due("undo() " + i, k.undo(), were.size() - 1);
        if (!were.isEmpty()) freeze = were.remove(were.size() - 1);
      }
      due("count(3) " + i, k.count(3), freeze);
      due("count(7) " + i, k.count(7), were.size());
    }
  }

  // "what its call doesn't refuse is one"
  static void p35_what_is_refused_is_no_act() {
    SlotKeeper k = FULL.make();
    for (int i = 0; i < 10; i++) {
      k.come(0, 1, 1, 1);
      k.close(1, 2);
      k.putIn(0);
      k.around(1, 5);
      k.tell(9876543210L);
      k.feed(0, 0, 0, 0, 0);
      iae("goOn(0)", k, x -> x.goOn(0));
      nse("go(10)", k, x -> x.go(10));
    }
    due("undo()", k.undo(), 15);
    due("craft(9, 11): the latest ACT was its hurrying", k.craft(9, 11), 0);
    due("undo()", k.undo(), 14);
    due("count(3): the one ahead was FREEZE", k.count(3), 10);
  }

  // "of each CRAFT along it L (it lands) or T (it leaves), its KIND, @, its SLOT, ! if that is above LATEST, commas between"
  static void p36_nobody_is_said_by_no_bytes() {
    SlotKeeper k = new SlotKeeper();
    due("say()", k.say(), 0);
    due("said(0)", k.said(0), -1);
    k = three();
    k.say();
    k.board(0);
    due("say()", k.say(), 0);
    due("said(0): the latest say() counts", k.said(0), -1);
  }

  static void p36_each_sort() {
    String[] starts = {"L0@", "T0@", "L1@", "T1@", "L2@", "T2@", "L3@", "T3@"};
    for (int sort = 0; sort < 8; sort++) {
      SlotKeeper k = new SlotKeeper();
      k.come(sort, 5, 5, 1);
      same("what is SAID", said(k), starts[sort] + 5);
    }
  }

  static void p36_slots_of_one_to_four_figures() {
    for (int slot : new int[] {0, 1, 9, 10, 11, 99, 100, 101, 990, 999}) {
      SlotKeeper k = new SlotKeeper();
      k.come(0, slot, 999, 1);
      same("what is SAID", said(k), "L0@" + slot);
    }
    for (int slot : new int[] {1000, 1001, 1009, 1010, 1100, 1999}) {
      SlotKeeper k = new SlotKeeper();
      k.close(0, slot);
      k.come(0, 0, 1999, 1);
      same("what is SAID", said(k), "L0@" + slot);
    }
  }

  static void p36_late_above_latest_not_at_it() {
    SlotKeeper k = three();
    k.change(1, 1, 13);
    same("what is SAID", said(k), "L0@10,L1@13,T0@16");
    k.change(1, 1, 12);
    same("what is SAID", said(k), "L0@10,L1@13!,T0@16");
    k.change(2, 1, 15);
    same("what is SAID", said(k), "L0@10,L1@13!,T0@16!");
  }

  static void p36_ten_that_are_all_late_beyond_1999() {
    SlotKeeper k = new SlotKeeper();
    k.close(0, 1999);
    k.part(7, 7, 99);
    for (int i = 0; i < 10; i++) k.come(7, 0, 0, 1);
    StringBuilder want = new StringBuilder();
    for (int i = 0; i < 10; i++) want.append(i == 0 ? "" : ",").append("T3@").append(1999 + 99 * i).append('!');
    due("say()", k.say(), want.length());
    same("what is SAID", said(k), want.toString());
  }

  static void p36_along_the_plan_and_no_act() {
    SlotKeeper k = RICH.make();
    due("say()", k.say(), "T0@12,L0@15,L1@20,L2@23".length());
    same("what is SAID", said(k), "T0@12,L0@15,L1@20,L2@23");
    due("count(7)", k.count(7), 11);
    onlyAsks("say() of what was SAID", RICH, SlotKeeper::say);
  }

  // "NONE: there is none such, nothing was SAID."
  static void p37_none_such_or_nothing_was_said() {
    for (int i : new int[] {-1, 0, 1, MIN, MAX}) {
      int at = i;
      answersOnly("said(" + i + ")", EMPTY, -1, k -> k.said(at));
    }
    for (int i : new int[] {-1, 23, 24, MIN, MAX}) {
      int at = i;
      answersOnly("said(" + i + ")", RICH, -1, k -> k.said(at));
    }
    answersOnly("said(0)", RICH, 'T', k -> k.said(0));
    answersOnly("said(22)", RICH, '3', k -> k.said(22));
  }

  // "(as it was then, whatever came since)"
  static void p37_as_it_was_then() {
    SlotKeeper k = three();
    k.say();
    k.tell(210);
    k.goOn(100);
    k.undo();
    k.part(0, 0, 99);
    read(k, "x");
    read(k, "craft leaves 3 7 7 7;");
    StringBuilder s = new StringBuilder();
    for (int i = 0; k.said(i) >= 0; i++) s.append((char) k.said(i));
    same("what was SAID", s.toString(), "L0@10,L1@13,T0@16");
    due("say()", k.say(), 4);
    due("said(4): a shorter one", k.said(4), -1);
    due("said(3)", k.said(3), '7');
  }

  public static void main(String[] args) throws Exception {
    runAll(BoundaryTimeTest.class, 30, 37);
  }
}
