/** Promises 5 to 17: what can be asked of the BOARD, and what changes it but for THE PLAN and time. */
public final class BoundaryBoardTest extends Sentences {
  private static final int MIN = Integer.MIN_VALUE;
  private static final int MAX = Integer.MAX_VALUE;

  // "NoSuchElementException: another what."
  static void p05_another_what_is_refused() {
    for (int what : new int[] {-1, 17, 18, MIN, MAX}) {
      refusedNse("count(" + what + ")", EMPTY, k -> k.count(what));
      refusedNse("count(" + what + ")", RICH, k -> k.count(what));
      refusedNse("count(" + what + ")", FULL, k -> k.count(what));
    }
  }

  static void p05_counting_changes_nothing() {
    for (int what = 0; what < 17; what++) {
      int w = what;
      onlyAsks("count(" + w + ")", RICH, k -> k.count(w));
      onlyAsks("count(" + w + ")", FULL, k -> k.count(w));
    }
  }

  static void p05_each_what_of_a_full_board() {
    SlotKeeper k = FULL.make();
    // NOW 70, SLOTS 71, 74, 77, 90 (80 to 89 are CLOSED), .. 108, FREEZE 5: those at 71 and 74 are FROZEN
    int[] due = {10, 70, 2, 5, 2, 20, 4, 16, 500, 1, 0};
    same("SLOTS", slots(k), "71 74 77 90 93 96 99 102 105 108");
    for (int i = 0; i < due.length; i++) due("count(" + i + ")", k.count(i), due[i]);
    due("count(12)", k.count(12), 108);
    due("count(13)", k.count(13), 108 - 80);
    due("count(16): 9 is HURRIED and last", k.count(16), 9);
  }

  // "FROZEN are CRAFT of THE PLAN from its front on as long as their SLOTS are NOW and FREEZE, together, or less."
  static void p05_frozen_at_now_and_freeze_not_1_later() {
    SlotKeeper k = three();
    int[][] freezeAndFrozen = {{0, 0}, {9, 0}, {10, 1}, {12, 1}, {13, 2}, {15, 2}, {16, 3}, {99, 3}};
    for (int[] f : freezeAndFrozen) {
      k.rule(true, f[0]);
      due("count(4), FREEZE " + f[0], k.count(4), f[1]);
    }
    k.rule(true, 4);
    k.goOn(5);
    due("count(4), NOW 5, FREEZE 4", k.count(4), 0);
    k.goOn(6);
    due("count(4), NOW 6, FREEZE 4", k.count(4), 1);
  }

  static void p05_frozen_by_a_freeze_of_0_at_now() {
    SlotKeeper k = new SlotKeeper();
    k.rule(true, 0);
    k.come(0, 0, 9, 1);
    due("count(4): its SLOT is NOW", k.count(4), 1);
    k.change(0, 0, 1);
    due("count(4): its SLOT is 1 later", k.count(4), 0);
  }

  static void p05_frozen_by_slots_of_the_plan_not_by_numbers() {
    SlotKeeper k = told("freeze 0;craft lands 0 50 99 1;craft lands 0 5 99 1;");
    k.tell(10);
    k.rule(true, 5);
    due("count(4)", k.count(4), 1);
    due("craft(0, 9)", k.craft(0, 9), 0);
    due("craft(1, 9)", k.craft(1, 9), 1);
  }

  // "DONE are the latest 20."
  static void p05_done_are_20_at_most() {
    SlotKeeper k = new SlotKeeper();
    for (int i = 0; i < 23; i++) {
      k.come(0, 0, 1999, 1);
      k.goOn(3 * i);
      due("count(5)", k.count(5), Math.min(20, i + 1));
    }
  }

  // "ACTS (at most 16 are kept, the latest ones ..)"
  static void p05_acts_are_16_at_most() {
    SlotKeeper k = new SlotKeeper();
    for (int i = 0; i < 40; i++) {
      due("count(7)", k.count(7), Math.min(16, i));
      k.rule(true, i);
    }
  }

  // "An ORDER HOLDS, if no SLOT is above LATEST."
  static void p05_it_holds_at_latest_not_1_above() {
    for (int c = 0; c < 3; c++) {
      SlotKeeper k = three();
      k.close(10, 11);
      int slot = k.craft(c, 6);
      k.change(c, 1, slot);
      due("count(9), LATEST of " + c + " is its SLOT", k.count(9), 1);
      k.change(c, 1, slot - 1);
      due("count(9), LATEST of " + c + " is 1 less", k.count(9), 0);
    }
  }

  static void p05_it_holds_and_is_allowed_without_craft() {
    due("count(9)", new SlotKeeper().count(9), 1);
    due("count(10)", new SlotKeeper().count(10), 1);
    SlotKeeper k = alike(1, 5);
    k.go(0);
    due("count(9)", k.count(9), 1);
    due("count(10)", k.count(10), 1);
  }

  /** So many with READY 100, 110 ..: RANKS are numbers. */
  private static SlotKeeper inARow(int n, int shift) {
    SlotKeeper k = new SlotKeeper();
    k.rule(true, 0);
    k.rule(false, shift);
    for (int i = 0; i < n; i++) k.come(0, 100 + 10 * i, 1999, 1);
    return k;
  }

  // "each other one's place (0 on) is no more than SHIFT away from its RANK"
  static void p05_allowed_is_a_place_shift_away_not_1_more() {
    long[] later = {1234, 10234, 12034, 12304, 12340};
    long[] sooner = {1234, 1243, 1423, 4123, 40123};
    for (int shift = 0; shift <= 3; shift++)
      for (int away = 0; away <= 4; away++) {
        SlotKeeper k = inARow(5, shift);
        k.tell(later[away]);
        due("count(10), SHIFT " + shift + ", " + away + " later", k.count(10), away <= shift ? 1 : 0);
        k.tell(sooner[away]);
        due("count(10), SHIFT " + shift + ", " + away + " sooner", k.count(10), away <= shift ? 1 : 0);
      }
  }

  // "it begins with those that are FROZEN (as in THE PLAN)": their places are not asked
  static void p05_a_frozen_ones_place_is_not_asked() {
    SlotKeeper k = inARow(3, 1);
    k.tell(201);
    due("count(10): 2 is 2 away", k.count(10), 0);
    k.goOn(99);
    k.rule(true, 20);
    due("count(4): 2 at 120 isn't FROZEN", k.count(4), 0);
    k.rule(true, 21);
    due("count(4): 2 at 120 is FROZEN", k.count(4), 1);
    due("count(10)", k.count(10), 1);
    k.rule(false, 0);
    due("count(10): 0 and 1 are 1 away", k.count(10), 0);
    k.rule(true, 99);
    due("count(4)", k.count(4), 3);
    due("count(10): all are FROZEN", k.count(10), 1);
  }

  // "Its COST: 0 WAITS times WEIGHTS, all together; 1 the greatest SLOT, 2 the greatest WAIT (0 both without CRAFT)."
  static void p05_costs_without_craft_are_0() {
    SlotKeeper k = new SlotKeeper();
    k.goOn(50);
    for (int what = 11; what <= 13; what++) due("count(" + what + ")", k.count(what), 0);
    k = alike(2, 7);
    k.goOn(10);
    due("count(0)", k.count(0), 0);
    for (int what = 11; what <= 13; what++) due("count(" + what + "), all DONE", k.count(what), 0);
  }

  static void p05_costs_by_weights_of_0_and_20() {
    SlotKeeper k = told("craft lands 0 10 99 20;craft lands 0 10 99 0;craft lands 0 11 99 20;");
    due("count(11): 0, 3 times 0, 5 times 20", k.count(11), 100);
    due("count(12)", k.count(12), 16);
    due("count(13)", k.count(13), 5);
    k.change(2, 2, 0);
    due("count(11)", k.count(11), 0);
    due("count(13): WEIGHT isn't asked", k.count(13), 5);
  }

  static void p05_the_greatest_wait_may_be_any_ones() {
    SlotKeeper k = told("closed 10 20;craft lands 0 10 99 1;craft lands 0 60 99 1;craft lands 0 62 99 1;");
    due("count(13): the first one's", k.count(13), 10);
    due("count(12)", k.count(12), 63);
    due("count(11)", k.count(11), 11);
  }

  // "CROOKED: rows of SORTS X, Y, Z by which the GAP of X and Z is above those of X and Y, of Y and Z together."
  static void p05_crooked_is_above_not_equal() {
    SlotKeeper k = new SlotKeeper();
    k.part(1, 5, 6);
    due("count(14), 6 against 3 and 3", k.count(14), 0);
    due("count(15)", k.count(15), -1);
    k.part(1, 5, 7);
    // Y is neither 1 nor 5: by these the GAP itself is one of both
    due("count(14), 7 against 3 and 3", k.count(14), 6);
    due("count(15): 1 0 5", k.count(15), 64 + 5);
    k.part(1, 0, 4);
    due("count(14), 7 against 4 and 3", k.count(14), 5);
    due("count(15): 1 2 5", k.count(15), 64 + 16 + 5);
    k.part(2, 5, 4);
    due("count(15): 1 3 5", k.count(15), 64 + 24 + 5);
  }

  static void p05_crooked_rows_may_begin_and_end_alike() {
    SlotKeeper k = new SlotKeeper();
    k.part(7, 7, 7);
    due("count(14)", k.count(14), 7);
    due("count(15): 7 0 7", k.count(15), 448 + 7);
    k.part(0, 0, 7);
    due("count(14)", k.count(14), 14);
    due("count(15): 0 1 0", k.count(15), 8);
  }

  static void p05_crooked_rows_of_the_greatest_and_the_least_gaps() {
    SlotKeeper k = new SlotKeeper();
    for (int x = 0; x < 64; x++) k.part(x / 8, x % 8, 0);
    due("count(14), all 0", k.count(14), 0);
    k.part(7, 6, 1);
    due("count(14), one is 1", k.count(14), 6);
    due("count(15): 7 0 6", k.count(15), 448 + 6);
    SlotKeeper g = new SlotKeeper();
    for (int x = 0; x < 64; x++) g.part(x / 8, x % 8, 99);
    due("count(14), all 99", g.count(14), 0);
    due("count(15), all 99", g.count(15), -1);
    g.part(7, 6, 49);
    g.part(6, 5, 49);
    due("count(14), 99 against 49 and 49", g.count(14), 1);
    due("count(15): 7 6 5", g.count(15), 448 + 48 + 5);
    g.part(6, 5, 50);
    due("count(14), 99 against 49 and 50", g.count(14), 0);
  }

  // "TURNED couples: CRAFT one of which is ahead of the other one in THE PLAN and behind it by RANK."
  static void p05_turned_couples_none_and_all() {
    due("count(16), one", alike(1, 5).count(16), 0);
    SlotKeeper k = alike(10, 5);
    due("count(16), by RANKS", k.count(16), 0);
    k.tell(9876543210L);
    due("count(16), the other way", k.count(16), 45);
    k.tell(1023456789L);
    due("count(16), the first two", k.count(16), 1);
    k.hurry(1, 1);
    due("count(16), 1 HURRIED", k.count(16), 0);
  }

  // "NoSuchElementException: no such CRAFT, another what."
  static void p06_no_such_craft_is_refused() {
    for (int c : new int[] {-1, 4, MIN, MAX}) refusedNse("craft(" + c + ", 0)", RICH, k -> k.craft(c, 0));
    refusedNse("craft(10, 6)", FULL, k -> k.craft(10, 6));
    due("craft(9, 1)", FULL.make().craft(9, 1), 80);
    due("craft(3, 1)", RICH.make().craft(3, 1), 14);
  }

  static void p06_another_what_is_refused() {
    for (int what : new int[] {-1, 14, MIN, MAX}) refusedNse("craft(0, " + what + ")", RICH, k -> k.craft(0, what));
  }

  static void p06_asking_changes_nothing() {
    for (int what = 0; what < 14; what++) {
      int w = what;
      for (int c = 0; c < 4; c++) {
        int craft = c;
        onlyAsks("craft(" + c + ", " + w + ")", RICH, k -> k.craft(craft, w));
      }
      onlyAsks("craft(9, " + w + ")", FULL, k -> k.craft(9, w));
    }
  }

  // "the least time that is READY or later, NOW or later"
  static void p06_slot_is_ready_or_now() {
    SlotKeeper k = new SlotKeeper();
    k.goOn(20);
    k.come(0, 19, 99, 1);
    due("craft(0, 6), READY 1 ahead of NOW", k.craft(0, 6), 20);
    k.change(0, 0, 20);
    due("craft(0, 6), READY at NOW", k.craft(0, 6), 20);
    k.change(0, 0, 21);
    due("craft(0, 6), READY 1 behind NOW", k.craft(0, 6), 21);
    k.change(0, 0, 0);
    due("craft(0, 7)", k.craft(0, 7), 20);
    k.change(0, 0, 999);
    due("craft(0, 6)", k.craft(0, 6), 999);
  }

  // "CLOSED are at most 4 spans of time (from A on, ahead of B)", "not in a CLOSED span"
  static void p06_slot_is_not_from_a_on_ahead_of_b() {
    int[][] readyAndSlot = {{48, 48}, {49, 49}, {50, 55}, {51, 55}, {54, 55}, {55, 55}, {56, 56}};
    for (int[] r : readyAndSlot) {
      SlotKeeper k = new SlotKeeper();
      k.close(50, 55);
      k.come(0, r[0], 99, 1);
      due("craft(0, 6), READY " + r[0], k.craft(0, 6), r[1]);
    }
    SlotKeeper edge = new SlotKeeper();
    edge.close(0, 1999);
    edge.come(0, 0, 1999, 1);
    due("craft(0, 6), all is CLOSED but 1999", edge.craft(0, 6), 1999);
    due("count(9)", edge.count(9), 1);
  }

  static void p06_slot_is_behind_spans_that_meet_in_any_order() {
    int[][] spans = {{10, 20}, {20, 30}, {30, 40}, {40, 41}};
    int[][] rows = {{0, 1, 2, 3}, {3, 2, 1, 0}, {2, 0, 3, 1}, {1, 3, 0, 2}};
    for (int[] row : rows) {
      SlotKeeper k = new SlotKeeper();
      for (int i : row) k.close(spans[i][0], spans[i][1]);
      k.come(0, 10, 99, 1);
      due("craft(0, 6)", k.craft(0, 6), 41);
    }
    SlotKeeper k = new SlotKeeper();
    k.close(10, 40);
    k.close(15, 20);
    k.close(39, 50);
    k.close(51, 60);
    k.come(0, 12, 99, 1);
    due("craft(0, 6): 50 is open", k.craft(0, 6), 50);
    k.come(0, 12, 99, 1);
    due("craft(1, 6): 53 is CLOSED", k.craft(1, 6), 60);
  }

  // "of each CRAFT ahead in the row and each of those DONE, no sooner than its SLOT and the GAP of both SORTS together"
  static void p06_slot_keeps_the_gap_of_each_ahead() {
    SlotKeeper k = new SlotKeeper();
    k.part(0, 4, 50);
    k.come(0, 10, 99, 1);
    k.come(2, 10, 99, 1);
    k.come(2, 10, 99, 1);
    k.come(4, 10, 99, 1);
    same("SLOTS", slots(k), "10 13 16 60");
    k.part(2, 4, 45);
    same("SLOTS, 16 and 45", slots(k), "10 13 16 61");
    k.part(4, 2, 99);
    same("SLOTS: the GAP of one behind isn't asked", slots(k), "10 13 16 61");
  }

  static void p06_slot_keeps_the_gap_of_each_of_those_done() {
    SlotKeeper k = new SlotKeeper();
    k.part(0, 4, 50);
    k.come(0, 10, 99, 1);
    k.come(2, 10, 99, 1);
    k.goOn(13);
    due("count(5)", k.count(5), 2);
    k.come(4, 0, 99, 1);
    due("craft(0, 6)", k.craft(0, 6), 60);
    k.part(0, 4, 0);
    due("craft(0, 6): 13 and 3", k.craft(0, 6), 16);
    k.part(2, 4, 0);
    due("craft(0, 6): NOW", k.craft(0, 6), 13);
  }

  // "GAPS: for each SORT ahead and each SORT behind 0 to 99"
  static void p06_slots_by_gaps_of_0_and_99() {
    SlotKeeper k = alike(3, 5);
    k.part(0, 0, 0);
    same("SLOTS", slots(k), "5 5 5");
    due("craft(2, 12)", k.craft(2, 12), -2);
    k.part(0, 0, 99);
    same("SLOTS", slots(k), "5 104 203");
    due("craft(2, 7)", k.craft(2, 7), 198);
  }

  // "of those alike in that who have lesser READY, or the same and a lesser number"
  static void p06_rank_by_ready_then_by_numbers() {
    SlotKeeper k = told("craft lands 0 5 99 1;craft lands 0 4 99 1;craft lands 0 5 99 1;craft lands 0 6 99 1;craft lands 0 4 99 1;");
    int[] ranks = {2, 0, 3, 4, 1};
    for (int c = 0; c < 5; c++) due("craft(" + c + ", 4)", k.craft(c, 4), ranks[c]);
  }

  // "those that are HURRIED, if it isn't"
  static void p06_rank_by_hurried_first() {
    SlotKeeper k = alike(4, 5);
    k.change(3, 0, 900);
    k.hurry(3, 1);
    int[] ranks = {1, 2, 3, 0};
    for (int c = 0; c < 4; c++) due("craft(" + c + ", 4)", k.craft(c, 4), ranks[c]);
    k.hurry(2, 1);
    int[] two = {2, 3, 0, 1};
    for (int c = 0; c < 4; c++) due("craft(" + c + ", 4)", k.craft(c, 4), two[c]);
    k.hurry(0, 1);
    k.hurry(1, 1);
    for (int c = 0; c < 4; c++) due("craft(" + c + ", 4), all HURRIED", k.craft(c, 4), c);
  }

  // "8 how far its place is from its RANK (below 0: ahead of it)"
  static void p06_how_far_from_its_rank() {
    SlotKeeper k = alike(10, 5);
    k.tell(9876543210L);
    for (int c = 0; c < 10; c++) due("craft(" + c + ", 8)", k.craft(c, 8), 9 - 2 * c);
    k.tell(123456789L);
    for (int c = 0; c < 10; c++) due("craft(" + c + ", 8)", k.craft(c, 8), 0);
  }

  // "10 how much above LATEST its SLOT is (0, if it isn't)"
  static void p06_how_much_above_latest() {
    SlotKeeper k = three();
    k.change(2, 1, 17);
    due("craft(2, 10), LATEST 1 later", k.craft(2, 10), 0);
    k.change(2, 1, 16);
    due("craft(2, 10), LATEST its SLOT", k.craft(2, 10), 0);
    k.change(2, 1, 15);
    due("craft(2, 10), LATEST 1 sooner", k.craft(2, 10), 1);
    k.change(2, 1, 12);
    due("craft(2, 10)", k.craft(2, 10), 4);
  }

  // "HELD BY of a CRAFT: -2, if its SLOT is READY or NOW"
  static void p06_held_by_ready_or_now_first_of_all() {
    SlotKeeper k = new SlotKeeper();
    k.rule(true, 0);
    k.close(0, 10);
    k.come(0, 7, 99, 1);
    k.come(0, 13, 99, 1);
    due("craft(1, 12): its SLOT is READY, and that of 0 and the GAP", k.craft(1, 12), -2);
    due("craft(0, 12)", k.craft(0, 12), -3);
    k.change(0, 0, 10);
    due("craft(0, 12): READY, and the time ahead is CLOSED", k.craft(0, 12), -2);
    k.change(0, 0, 7);
    k.goOn(9);
    due("craft(0, 12), NOW 9", k.craft(0, 12), -3);
    k.goOn(10);
    due("count(5)", k.count(5), 1);
    k.part(0, 0, 0);
    k.come(0, 1, 99, 1);
    k.tell(10);
    due("craft(1, 6)", k.craft(1, 6), 10);
    due("craft(1, 12): NOW, and one is DONE at 10", k.craft(1, 12), -2);
  }

  // "else -3, if the time 1 ahead of its SLOT is in a CLOSED span"
  static void p06_held_by_a_span_ahead_of_those_done_and_craft() {
    SlotKeeper k = three();
    k.goOn(10);
    k.close(11, 13);
    due("craft(0, 6)", k.craft(0, 6), 13);
    due("craft(0, 12): 10 and 3 of one DONE, too", k.craft(0, 12), -3);
    k.open(0);
    due("craft(0, 12)", k.craft(0, 12), -4);
    k.close(11, 12);
    due("craft(0, 12): 12 is open", k.craft(0, 12), -4);
    k.close(15, 16);
    due("craft(1, 6)", k.craft(1, 6), 16);
    due("craft(1, 12): 13 and 3 of the one ahead, too", k.craft(1, 12), -3);
  }

  // "else -4, if its SLOT is that of one that is DONE and the GAP, together"
  static void p06_held_by_one_done_ahead_of_craft() {
    SlotKeeper k = three();
    k.part(0, 1, 6);
    k.goOn(10);
    same("SLOTS", slots(k), "13 16");
    due("craft(1, 12): 10 and 6, and 13 and 3", k.craft(1, 12), -4);
    k.part(0, 1, 5);
    due("craft(1, 12): 13 and 3 alone", k.craft(1, 12), 0);
    k.part(0, 1, 7);
    due("craft(1, 6)", k.craft(1, 6), 17);
    due("craft(1, 12): 10 and 7", k.craft(1, 12), -4);
  }

  static void p06_held_by_any_of_those_done() {
    SlotKeeper k = new SlotKeeper();
    k.part(0, 5, 30);
    k.come(0, 4, 99, 1);
    k.come(2, 8, 99, 1);
    k.goOn(8);
    k.come(5, 9, 99, 1);
    due("craft(0, 6)", k.craft(0, 6), 34);
    due("craft(0, 12): the one DONE first", k.craft(0, 12), -4);
    k.part(2, 5, 30);
    due("craft(0, 6)", k.craft(0, 6), 38);
    due("craft(0, 12): the one DONE last", k.craft(0, 12), -4);
  }

  // "else the CRAFT nearest ahead of it in THE PLAN whose SLOT and the GAP, together, are its SLOT"
  static void p06_held_by_the_nearest_craft() {
    SlotKeeper k = alike(4, 5);
    k.tell(3210);
    same("SLOTS", slots(k), "5 8 11 14");
    due("craft(0, 12)", k.craft(0, 12), 1);
    due("craft(2, 12)", k.craft(2, 12), 3);
    k.part(0, 0, 0);
    k.close(5, 6);
    k.change(0, 0, 0);
    same("SLOTS", slots(k), "6 6 6 6");
    due("craft(0, 12): the time ahead is CLOSED", k.craft(0, 12), -3);
    SlotKeeper z = told("freeze 0;gap lands 0 lands 1 4;gap lands 0 lands 2 4;gap lands 1 lands 2 0;craft lands 0 9 99 1;craft lands 1 9 99 1;craft lands 2 9 99 1;");
    same("SLOTS", slots(z), "9 13 13");
    due("craft(2, 12): 13 and 0, nearer than 9 and 4", z.craft(2, 12), 1);
    z.part(0, 4, 5);
    due("craft(2, 12): 9 and 5", z.craft(2, 12), 0);
  }

  // "SLACK of a CRAFT: the greatest d (0 to 99) so that THE PLAN HOLDS"
  static void p06_slack_is_0_to_99() {
    for (int room : new int[] {0, 1, 98, 99, 100, 500}) {
      SlotKeeper k = new SlotKeeper();
      k.come(0, 10, 10 + room, 1);
      due("craft(0, 13), LATEST " + room + " later", k.craft(0, 13), Math.min(99, room));
    }
  }

  static void p06_slack_asks_all_others_too() {
    SlotKeeper k = told("craft lands 0 10 500 1;craft lands 0 40 45 1;craft lands 0 500 500 1;");
    due("craft(0, 13): 42 and 45", k.craft(0, 13), 32);
    due("craft(1, 13)", k.craft(1, 13), 5);
    due("craft(2, 13)", k.craft(2, 13), 0);
    k.change(1, 1, 40);
    due("craft(0, 13): 37 and 40", k.craft(0, 13), 27);
  }

  // "(beyond 999, too; LATEST as it is)"
  static void p06_slack_goes_beyond_999() {
    SlotKeeper k = new SlotKeeper();
    k.come(0, 999, 1050, 1);
    due("craft(0, 13)", k.craft(0, 13), 51);
    k.change(0, 1, 999);
    due("craft(0, 13)", k.craft(0, 13), 0);
    k.change(0, 1, 1999);
    due("craft(0, 13)", k.craft(0, 13), 99);
  }

  static void p06_slack_is_counted_from_the_slot() {
    SlotKeeper k = new SlotKeeper();
    k.goOn(30);
    k.come(0, 10, 40, 1);
    due("craft(0, 13): 30 to 40", k.craft(0, 13), 10);
    k.close(35, 41);
    due("craft(0, 13): 35 to 40 are CLOSED", k.craft(0, 13), 4);
    k.close(30, 33);
    due("craft(0, 13): 33 and 34 are open", k.craft(0, 13), 1);
  }

  // "none, if it doesn't HOLD"
  static void p06_no_slack_where_it_doesnt_hold() {
    SlotKeeper k = three();
    k.change(2, 1, 15);
    for (int c = 0; c < 3; c++) due("craft(" + c + ", 13)", k.craft(c, 13), -1);
    k.change(2, 1, 16);
    due("craft(0, 13)", k.craft(0, 13), 0);
    due("craft(2, 13)", k.craft(2, 13), 0);
  }

  // "NoSuchElementException: there is none such."
  static void p07_no_such_place_is_refused() {
    for (int p : new int[] {-1, 4, MIN, MAX}) refusedNse("planned(" + p + ")", RICH, k -> k.planned(p));
    refusedNse("planned(10)", FULL, k -> k.planned(10));
    refusedNse("planned(0)", EMPTY, k -> k.planned(0));
  }

  static void p07_the_first_and_the_last_place() {
    SlotKeeper k = RICH.make();
    due("planned(0)", k.planned(0), 2);
    due("planned(3)", k.planned(3), 3);
    due("planned(9)", FULL.make().planned(9), 9);
    onlyAsks("planned(1)", RICH, x -> x.planned(1));
  }

  // "NoSuchElementException: no such SORTS."
  static void p08_no_such_sorts_are_refused() {
    for (int s : new int[] {-1, 8, MIN, MAX}) {
      refusedNse("gap(" + s + ", 0)", RICH, k -> k.gap(s, 0));
      refusedNse("gap(0, " + s + ")", RICH, k -> k.gap(0, s));
      refusedNse("gap(" + s + ", " + s + ")", RICH, k -> k.gap(s, s));
    }
    refusedNse("gap(-1, 8): both together would be one", RICH, k -> k.gap(-1, 8));
    refusedNse("gap(0, 9): both together would be one", RICH, k -> k.gap(0, 9));
  }

  static void p08_each_gap_is_its_own() {
    SlotKeeper k = new SlotKeeper();
    for (int x = 0; x < 64; x++) k.part(x / 8, x % 8, x);
    for (int x = 0; x < 64; x++) due("gap(" + x / 8 + ", " + x % 8 + ")", k.gap(x / 8, x % 8), x);
    onlyAsks("gap(0, 2)", RICH, r -> r.gap(0, 2));
  }

  // "NoSuchElementException: no such one."
  static void p09_no_such_span_is_refused() {
    for (int i : new int[] {-1, 1, 4, MIN, MAX}) {
      refusedNse("closed(" + i + ", false)", RICH, k -> k.closed(i, false));
      refusedNse("closed(" + i + ", true)", RICH, k -> k.closed(i, true));
    }
    refusedNse("closed(4, true)", FULL, k -> k.closed(4, true));
    refusedNse("closed(0, false)", EMPTY, k -> k.closed(0, false));
  }

  static void p09_the_first_and_the_last_span() {
    SlotKeeper k = FULL.make();
    due("closed(0, false)", k.closed(0, false), 40);
    due("closed(0, true)", k.closed(0, true), 42);
    due("closed(3, false)", k.closed(3, false), 1500);
    due("closed(3, true)", k.closed(3, true), 1600);
    onlyAsks("closed(0, true)", RICH, r -> r.closed(0, true));
  }

  private static void came(int sort, int ready, int latest, int weight) {
    SlotKeeper k = new SlotKeeper();
    due("come", k.come(sort, ready, latest, weight), 0);
    int[] all = {sort, ready, latest, weight};
    for (int i = 0; i < 4; i++) due("craft(0, " + i + ")", k.craft(0, i), all[i]);
  }

  private static void refusesToCome(int sort, int ready, int latest, int weight) {
    String call = "come(" + sort + ", " + ready + ", " + latest + ", " + weight + ")";
    refusedIae(call, RICH, k -> k.come(sort, ready, latest, weight));
    refusedIae(call + " of a full BOARD", FULL, k -> k.come(sort, ready, latest, weight));
  }

  // "A CRAFT has a SORT (.. 0 to 7)", "IllegalArgumentException (ahead of that): what isn't as told."
  static void p10_sort_0_to_7() {
    for (int sort = 0; sort < 8; sort++) came(sort, 1, 2, 3);
    for (int sort : new int[] {-1, 8, MIN, MAX}) refusesToCome(sort, 1, 2, 3);
  }

  static void p10_ready_0_to_999() {
    came(0, 0, 5, 1);
    came(0, 999, 1500, 1);
    for (int ready : new int[] {-1, 1000, MIN}) refusesToCome(0, ready, 1999, 1);
    refusesToCome(0, MAX, MAX, 1);
    refusesToCome(0, -1, -1, 1);
  }

  static void p10_latest_ready_to_1999() {
    came(0, 5, 5, 1);
    came(0, 0, 0, 1);
    came(0, 999, 999, 1);
    came(0, 5, 1999, 1);
    refusesToCome(0, 5, 4, 1);
    refusesToCome(0, 999, 998, 1);
    refusesToCome(0, 5, 2000, 1);
    refusesToCome(0, 5, -1, 1);
    refusesToCome(0, 5, MAX, 1);
    refusesToCome(0, 5, MIN, 1);
  }

  static void p10_weight_0_to_20() {
    came(0, 5, 6, 0);
    came(0, 5, 6, 20);
    for (int weight : new int[] {-1, 21, MIN, MAX}) refusesToCome(0, 5, 6, weight);
  }

  // "NONE (nothing changes): there are 10."
  static void p10_ten_come_an_11th_doesnt() {
    SlotKeeper k = new SlotKeeper();
    for (int i = 0; i < 10; i++) due("come", k.come(i % 8, i, 1999, i), i);
    due("come", k.come(0, 1, 1999, 1), -1);
    answersOnly("come", FULL, -1, f -> f.come(0, 1, 1999, 1));
    k.go(4);
    due("come: one has gone", k.come(0, 1, 1999, 1), 9);
  }

  // "who comes goes to its end": READY isn't asked, nor LATEST
  static void p10_it_comes_to_the_plans_end_not_hurried() {
    SlotKeeper k = RICH.make();
    due("come", k.come(0, 0, 0, 1), 4);
    same("THE PLAN", plan(k), "20134");
    due("craft(4, 11)", k.craft(4, 11), 0);
    due("count(9): it is late", k.count(9), 0);
    due("count(7)", k.count(7), 12);
  }

  static void p10_it_isnt_hurried_whoever_had_its_number() {
    SlotKeeper k = alike(2, 5);
    k.hurry(1, 1);
    k.go(1);
    k.come(0, 5, 9, 1);
    due("craft(1, 11)", k.craft(1, 11), 0);
    k.hurry(0, 1);
    k.hurry(1, 1);
    k.goOn(100);
    k.come(0, 5, 9, 1);
    due("craft(0, 11)", k.craft(0, 11), 0);
  }

  // "NoSuchElementException: no such CRAFT."
  static void p11_no_such_craft_is_refused() {
    for (int c : new int[] {-1, 4, MIN, MAX}) refusedNse("go(" + c + ")", RICH, k -> k.go(c));
    refusedNse("go(10)", FULL, k -> k.go(10));
    refusedNse("go(0)", EMPTY, k -> k.go(0));
  }

  // "(when one goes, those behind it have numbers less by 1)", "who goes is taken out"
  static void p11_those_behind_it_have_numbers_less_by_1() {
    String[] plans = {"102", "102", "012", "201"};
    int[][] readys = {{10, 12, 14}, {10, 12, 14}, {10, 10, 14}, {10, 10, 12}};
    for (int c = 0; c < 4; c++) {
      SlotKeeper k = RICH.make();
      due("go(" + c + ")", k.go(c), 3);
      same("THE PLAN, " + c + " gone", plan(k), plans[c]);
      for (int i = 0; i < 3; i++) due("craft(" + i + ", 1), " + c + " gone", k.craft(i, 1), readys[c][i]);
      for (int i = 0; i < 3; i++) due("craft(" + i + ", 11), " + c + " gone", k.craft(i, 11), c != 2 && i == (c < 2 ? 1 : 2) ? 1 : 0);
    }
  }

  static void p11_all_of_those_behind_it_goes_with_them() {
    for (int c = 0; c < 4; c++) {
      SlotKeeper k = new SlotKeeper();
      for (int i = 0; i < 4; i++) {
        k.come(i, 10 + i, 20 + i, i);
        k.hurry(i, i % 2);
      }
      k.go(c);
      for (int left = 0; left < 3; left++) {
        int was = left < c ? left : left + 1;
        int[] all = {was, 10 + was, 20 + was, was};
        for (int i = 0; i < 4; i++) due("craft(" + left + ", " + i + "), " + c + " gone", k.craft(left, i), all[i]);
        due("craft(" + left + ", 11), " + c + " gone", k.craft(left, 11), was % 2);
      }
    }
  }

  static void p11_the_last_one_goes_and_ten_go() {
    SlotKeeper k = FULL.make();
    for (int left = 9; left >= 0; left--) due("go(0)", k.go(0), left);
    nse("go(0)", k, x -> x.go(0));
    due("count(0)", k.count(0), 0);
    due("count(5): they are not DONE", k.count(5), 20);
    due("come", k.come(0, 1, 1, 1), 0);
  }

  // "NoSuchElementException: no such CRAFT, another what. IllegalArgumentException (behind that)"
  static void p12_no_such_craft_or_what_is_refused_first() {
    for (int c : new int[] {-1, 4, MIN, MAX}) {
      refusedNse("change(" + c + ", 0, 5)", RICH, k -> k.change(c, 0, 5));
      refusedNse("change(" + c + ", 0, -1)", RICH, k -> k.change(c, 0, -1));
    }
    for (int what : new int[] {-1, 3, MIN, MAX}) {
      refusedNse("change(0, " + what + ", 15)", RICH, k -> k.change(0, what, 15));
      refusedNse("change(0, " + what + ", -1)", RICH, k -> k.change(0, what, -1));
    }
  }

  static void p12_ready_0_to_999() {
    SlotKeeper k = RICH.make();
    due("change(0, 0, 0)", k.change(0, 0, 0), 10);
    due("change(0, 0, 999)", k.change(0, 0, 999), 0);
    due("craft(0, 1)", k.craft(0, 1), 999);
    for (int v : new int[] {-1, 1000, MIN, MAX}) refusedIae("change(0, 0, " + v + ")", RICH, x -> x.change(0, 0, v));
  }

  // "READY (what 0; LATEST is no less then)"
  static void p12_latest_is_no_less_than_ready() {
    SlotKeeper k = RICH.make();
    k.change(0, 0, 99);
    due("craft(0, 2), READY 1 less", k.craft(0, 2), 100);
    k.change(0, 0, 100);
    due("craft(0, 2), READY the same", k.craft(0, 2), 100);
    k.change(0, 0, 101);
    due("craft(0, 2), READY 1 more", k.craft(0, 2), 101);
    k.change(0, 0, 5);
    due("craft(0, 2) stays", k.craft(0, 2), 101);
    k.undo();
    k.undo();
    due("craft(0, 1) undone", k.craft(0, 1), 100);
    due("craft(0, 2) undone", k.craft(0, 2), 100);
  }

  static void p12_latest_ready_to_1999() {
    SlotKeeper k = RICH.make();
    due("change(0, 1, 10)", k.change(0, 1, 10), 100);
    due("change(0, 1, 1999)", k.change(0, 1, 1999), 10);
    due("craft(0, 2)", k.craft(0, 2), 1999);
    due("craft(0, 1)", k.craft(0, 1), 10);
    for (int v : new int[] {9, 2000, -1, MIN, MAX}) refusedIae("change(0, 1, " + v + ")", RICH, x -> x.change(0, 1, v));
  }

  static void p12_weight_0_to_20() {
    SlotKeeper k = RICH.make();
    due("change(0, 2, 0)", k.change(0, 2, 0), 2);
    due("change(0, 2, 20)", k.change(0, 2, 20), 0);
    due("craft(0, 3)", k.craft(0, 3), 20);
    for (int v : new int[] {-1, 21, MIN, MAX}) refusedIae("change(0, 2, " + v + ")", RICH, x -> x.change(0, 2, v));
  }

  // "what its call doesn't refuse is one, also where all is as it was"
  static void p12_a_change_to_the_same_is_an_act() {
    SlotKeeper k = RICH.make();
    String before = state(k);
    due("change(0, 0, 10)", k.change(0, 0, 10), 10);
    due("change(0, 1, 100)", k.change(0, 1, 100), 100);
    due("change(0, 2, 2)", k.change(0, 2, 2), 2);
    due("count(7)", k.count(7), 14);
    same("the BOARD", state(k), before);
  }

  static void p12_only_the_one_is_changed() {
    SlotKeeper k = RICH.make();
    k.change(3, 0, 500);
    k.change(3, 1, 700);
    k.change(3, 2, 9);
    int[][] rest = {{10, 100, 2}, {10, 100, 5}, {12, 100, 1}, {500, 700, 9}};
    for (int c = 0; c < 4; c++) for (int i = 0; i < 3; i++) due("craft(" + c + ", " + (i + 1) + ")", k.craft(c, i + 1), rest[c][i]);
  }

  // "NoSuchElementException: no such SORTS. IllegalArgumentException (behind that): v."
  static void p13_no_such_sorts_are_refused_first() {
    for (int s : new int[] {-1, 8, MIN, MAX}) {
      refusedNse("part(" + s + ", 0, 5)", RICH, k -> k.part(s, 0, 5));
      refusedNse("part(0, " + s + ", 5)", RICH, k -> k.part(0, s, 5));
      refusedNse("part(" + s + ", 0, 100)", RICH, k -> k.part(s, 0, 100));
      refusedNse("part(0, " + s + ", -1)", RICH, k -> k.part(0, s, -1));
    }
    refusedNse("part(-1, 8, 5)", RICH, k -> k.part(-1, 8, 5));
  }

  static void p13_gap_0_to_99() {
    SlotKeeper k = RICH.make();
    due("part(0, 2, 0)", k.part(0, 2, 0), 5);
    due("part(0, 2, 99)", k.part(0, 2, 99), 0);
    due("gap(0, 2)", k.gap(0, 2), 99);
    due("part(7, 7, 99)", k.part(7, 7, 99), 3);
    for (int v : new int[] {-1, 100, MIN, MAX}) refusedIae("part(0, 2, " + v + ")", RICH, x -> x.part(0, 2, v));
  }

  static void p13_the_same_gap_is_an_act() {
    SlotKeeper k = RICH.make();
    due("part(0, 2, 5)", k.part(0, 2, 5), 5);
    due("count(7)", k.count(7), 12);
  }

  // "SHIFT is 0 to 3 .., FREEZE 0 to 99", "IllegalArgumentException: v."
  static void p14_shift_0_to_3() {
    SlotKeeper k = RICH.make();
    due("rule(false, 0)", k.rule(false, 0), 2);
    due("rule(false, 3)", k.rule(false, 3), 0);
    due("count(2)", k.count(2), 3);
    due("count(3)", k.count(3), 4);
    for (int v : new int[] {-1, 4, 50, MIN, MAX}) refusedIae("rule(false, " + v + ")", RICH, x -> x.rule(false, v));
  }

  static void p14_freeze_0_to_99() {
    SlotKeeper k = RICH.make();
    due("rule(true, 0)", k.rule(true, 0), 4);
    due("rule(true, 99)", k.rule(true, 99), 0);
    due("count(3)", k.count(3), 99);
    due("count(2)", k.count(2), 2);
    for (int v : new int[] {-1, 100, MIN, MAX}) refusedIae("rule(true, " + v + ")", RICH, x -> x.rule(true, v));
  }

  static void p14_the_same_rule_is_an_act() {
    SlotKeeper k = RICH.make();
    due("rule(false, 2)", k.rule(false, 2), 2);
    due("rule(true, 4)", k.rule(true, 4), 4);
    due("count(7)", k.count(7), 13);
  }

  // "NoSuchElementException: no such CRAFT. IllegalArgumentException (behind that): neither 0 nor 1."
  static void p15_no_such_craft_is_refused_first() {
    for (int c : new int[] {-1, 4, MIN, MAX}) {
      refusedNse("hurry(" + c + ", 1)", RICH, k -> k.hurry(c, 1));
      refusedNse("hurry(" + c + ", 2)", RICH, k -> k.hurry(c, 2));
    }
    refusedNse("hurry(10, 1)", FULL, k -> k.hurry(10, 1));
  }

  static void p15_neither_0_nor_1_is_refused() {
    for (int v : new int[] {-1, 2, MIN, MAX}) refusedIae("hurry(0, " + v + ")", RICH, k -> k.hurry(0, v));
  }

  // "which it was", "nobody is at first"
  static void p15_which_it_was() {
    SlotKeeper k = alike(2, 5);
    due("hurry(1, 0)", k.hurry(1, 0), 0);
    due("hurry(1, 1)", k.hurry(1, 1), 0);
    due("hurry(1, 1)", k.hurry(1, 1), 1);
    due("craft(1, 11)", k.craft(1, 11), 1);
    due("craft(0, 11)", k.craft(0, 11), 0);
    due("hurry(1, 0)", k.hurry(1, 0), 1);
    due("craft(1, 11)", k.craft(1, 11), 0);
    due("count(7): each is an ACT", k.count(7), 7);
  }

  private static void refusesToClose(int from, int to) {
    refusedIae("close(" + from + ", " + to + ")", RICH, k -> k.close(from, to));
    refusedIae("a fifth close(" + from + ", " + to + ")", FULL, k -> k.close(from, to));
  }

  // "A 0 to 1998, B above A, 1999 at most", "IllegalArgumentException (ahead of that): A, B are not as told."
  static void p16_a_0_to_1998_b_above_a_1999_at_most() {
    SlotKeeper k = new SlotKeeper();
    due("close(0, 1)", k.close(0, 1), 1);
    due("close(1998, 1999)", k.close(1998, 1999), 2);
    due("close(0, 1999)", k.close(0, 1999), 3);
    due("closed(1, false)", k.closed(1, false), 1998);
    refusesToClose(-1, 5);
    refusesToClose(-1, 0);
    refusesToClose(1999, 2000);
    refusesToClose(1999, 1999);
    refusesToClose(5, 5);
    refusesToClose(5, 4);
    refusesToClose(5, 2000);
    refusesToClose(MAX, MIN);
    refusesToClose(MAX, MAX);
    refusesToClose(MIN, MAX);
    refusesToClose(5, MAX);
  }

  // "NONE (nothing changes): there are 4."
  static void p16_four_are_closed_a_fifth_isnt() {
    SlotKeeper k = new SlotKeeper();
    for (int i = 1; i <= 4; i++) due("close", k.close(7, 9), i);
    due("close", k.close(7, 9), -1);
    answersOnly("close(7, 9)", FULL, -1, f -> f.close(7, 9));
    k.open(0);
    due("close: one is open again", k.close(7, 9), 4);
    due("count(7)", k.count(7), 6);
  }

  // "NoSuchElementException: no such one."
  static void p17_no_such_span_is_refused() {
    for (int i : new int[] {-1, 1, MIN, MAX}) refusedNse("open(" + i + ")", RICH, k -> k.open(i));
    refusedNse("open(4)", FULL, k -> k.open(4));
    refusedNse("open(0)", EMPTY, k -> k.open(0));
  }

  // "(those behind it have numbers less by 1): how many are left"
  static void p17_those_behind_it_have_numbers_less_by_1() {
    int[] from = {40, 60, 80, 1500};
    int[] to = {42, 61, 90, 1600};
    for (int i = 0; i < 4; i++) {
      SlotKeeper k = FULL.make();
      due("open(" + i + ")", k.open(i), 3);
      for (int j = 0; j < 3; j++) {
        due("closed(" + j + ", false), " + i + " open", k.closed(j, false), from[j < i ? j : j + 1]);
        due("closed(" + j + ", true), " + i + " open", k.closed(j, true), to[j < i ? j : j + 1]);
      }
      nse("closed(3, true)", k, x -> x.closed(3, true));
    }
  }

  static void p17_the_last_one_is_opened() {
    SlotKeeper k = RICH.make();
    due("open(0)", k.open(0), 0);
    due("count(6)", k.count(6), 0);
    due("count(7)", k.count(7), 12);
    k.undo();
    due("closed(0, true)", k.closed(0, true), 34);
  }

  public static void main(String[] args) throws Exception {
    runAll(BoundaryBoardTest.class, 5, 17);
  }
}
