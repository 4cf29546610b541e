import java.util.ArrayList;
import java.util.Arrays;
import java.util.List;

/** Promises 1 to 4, and what the Terms say of a TEXT: a new object, feed, board, fault. */
public final class BoundaryTextTest extends Sentences {
  private static final String TEN = "craft lands0 0 9 1;".repeat(10);
  private static final String FOUR = "closed 0 1;closed 2 3;closed 4 5;closed 6 7;";

  /** board() of the whole text on a new object, and fault() then; with a FAULT the BOARD stays empty. */
  private static void fault(String text, int fault, int place) {
    SlotKeeper k = new SlotKeeper();
    due("board of " + text, read(k, text), fault);
    due("fault() of " + text, k.fault(), place);
    due("count(8) after " + text, k.count(8), 0);
    if (fault != 0) same("the BOARD after " + text, state(k), state(new SlotKeeper()));
  }

  private static void fine(String text) {
    fault(text, 0, -1);
  }

  // "An empty BOARD."
  static void p01_nobody_and_nothing_is_there() {
    SlotKeeper k = new SlotKeeper();
    int[] first = {0, 0, 2, 10, 0, 0, 0, 0, 0, 1, 1, 0, 0, 0, 0, -1, 0};
    for (int i = 0; i < first.length; i++) due("count(" + i + ")", k.count(i), first[i]);
    due("fault()", k.fault(), -1);
    due("said(0)", k.said(0), -1);
    due("undo()", k.undo(), -1);
  }

  // "GAPS: .. (3 at first). .. SHIFT is .. (2 at first), FREEZE .. (10 at first). NOW is 0 at first."
  static void p01_gaps_shift_freeze_now_at_first() {
    SlotKeeper k = new SlotKeeper();
    for (int x = 0; x < 64; x++) due("gap", k.gap(x / 8, x % 8), 3);
    due("SHIFT", k.rule(false, 1), 2);
    due("FREEZE", k.rule(true, 1), 10);
    due("NOW", k.count(1), 0);
  }

  static void p01_whoever_is_asked_for_isnt_there() {
    refusedNse("craft(0, 0)", EMPTY, k -> k.craft(0, 0));
    refusedNse("planned(0)", EMPTY, k -> k.planned(0));
    refusedNse("closed(0, true)", EMPTY, k -> k.closed(0, true));
    refusedNse("go(0)", EMPTY, k -> k.go(0));
    refusedNse("change(0, 0, 0)", EMPTY, k -> k.change(0, 0, 0));
    refusedNse("hurry(0, 0)", EMPTY, k -> k.hurry(0, 0));
    refusedNse("open(0)", EMPTY, k -> k.open(0));
    refusedNse("loss(0, 1)", EMPTY, k -> k.loss(0, 1));
    refusedNse("bestAt(0, 0)", EMPTY, k -> k.bestAt(0, 0));
    refusedNse("putIn(0)", EMPTY, k -> k.putIn(0));
    refusedNse("around(0, 1)", EMPTY, k -> k.around(0, 1));
    refusedNse("done(0, 0)", EMPTY, k -> k.done(0, 0));
  }

  static void p01_one_object_knows_nothing_of_another() {
    SlotKeeper one = new SlotKeeper();
    SlotKeeper other = new SlotKeeper();
    for (int i = 0; i < 10; i++) one.come(i % 8, i, 1999, i);
    one.part(1, 1, 99);
    one.close(1, 2);
    one.feed(1, 2, 3, 4, 5);
    one.say();
    same("the other one", look(() -> other), look(EMPTY));
  }

  // "NONE = -1: There is none."
  static void p01_none_is_minus_1() {
    due("NONE", SlotKeeper.NONE, -1);
  }

  // "Twenty bytes come behind the tape, of each number the highest first: how many it has"
  static void p02_twenty_bytes_the_highest_first() {
    SlotKeeper k = new SlotKeeper();
    due("feed", k.feed(0x636c6f73, 0x65642031, 0x32203334, 0x3b736869, 0x6674313b), 20);
    due("board(20) of closed 12 34;shift1;", k.board(20), 0);
    due("closed(0, false)", k.closed(0, false), 12);
    due("closed(0, true)", k.closed(0, true), 34);
    due("count(2)", k.count(2), 1);
  }

  static void p02_they_come_behind_those_that_are_there() {
    SlotKeeper k = new SlotKeeper();
    feed(k, "                 fre");
    due("the second feed", k.feed(0x657a6520, 0x39373b20, 0x20202020, 0x20202020, 0x20202020), 40);
    due("board(40)", k.board(40), 0);
    due("count(3)", k.count(3), 97);
  }

  static void p02_bytes_of_numbers_below_0_are_bytes_above_127() {
    for (int sign : new int[] {128, 200, 255}) {
      SlotKeeper k = new SlotKeeper();
      feed(k, "shift 1;");
      k.feed(sign << 24 | 0x202020, -1, Integer.MIN_VALUE, Integer.MAX_VALUE, 0);
      due("board(40)", k.board(40), 1);
      due("fault() of byte " + sign, k.fault(), 20);
    }
  }

  // "NONE, and none come, if it would have more than 500"
  static void p02_500_bytes_are_taken() {
    SlotKeeper k = new SlotKeeper();
    for (int i = 1; i <= 25; i++) due("feed " + i, k.feed(i, -i, 0, 1 << 31, ~i), 20 * i);
    due("count(8)", k.count(8), 500);
  }

  static void p02_none_come_beyond_500() {
    answersOnly("feed of a full tape", FULL, -1, k -> k.feed(0x78787878, 1, 2, 3, 4));
    answersOnly("feed of a full tape, twice", FULL, -1, k -> k.feed(1, 1, 1, 1, 1) + k.feed(2, 2, 2, 2, 2) + 1);
  }

  static void p02_500_come_again_behind_a_board() {
    SlotKeeper k = FULL.make();
    due("board(500)", k.board(500), 0);
    for (int i = 1; i <= 25; i++) due("feed " + i, k.feed(0, 0, 0, 0, 0), 20 * i);
    due("feed of a full tape", k.feed(0, 0, 0, 0, 0), -1);
  }

  static void p02_nothing_else_changes() {
    SlotKeeper k = RICH.make();
    String before = state(k);
    due("feed", k.feed(1, 2, 3, 4, 5), 40);
    same("the BOARD", state(k), before);
    due("count(7)", k.count(7), 11);
    due("fault()", k.fault(), 1);
  }

  // "IllegalArgumentException: the tape has not so many, n below 0 (nothing changes)."
  static void p03_more_than_the_tape_has_is_refused() {
    refusedIae("board(21) of 20", RICH, k -> k.board(21));
    refusedIae("board(501) of 500", FULL, k -> k.board(501));
    refusedIae("board(1) of none", EMPTY, k -> k.board(1));
    refusedIae("board(MAX)", FULL, k -> k.board(Integer.MAX_VALUE));
  }

  static void p03_n_below_0_is_refused() {
    refusedIae("board(-1)", RICH, k -> k.board(-1));
    refusedIae("board(-1) of none", EMPTY, k -> k.board(-1));
    refusedIae("board(-1) of 500", FULL, k -> k.board(-1));
    refusedIae("board(MIN)", RICH, k -> k.board(Integer.MIN_VALUE));
  }

  static void p03_as_many_as_the_tape_has_are_taken() {
    due("board(20) of 20", RICH.make().board(20), 0);
    due("board(500) of 500", FULL.make().board(500), 0);
    due("board(0) of none", new SlotKeeper().board(0), 0);
  }

  static void p03_no_bytes_are_an_empty_board() {
    for (Maker m : new Maker[] {EMPTY, RICH, FULL}) {
      SlotKeeper k = m.make();
      due("board(0)", k.board(0), 0);
      same("the BOARD", state(k), state(new SlotKeeper()));
      due("count(7)", k.count(7), 0);
      due("count(8)", k.count(8), 0);
    }
  }

  // "(it is empty then, with a FAULT, too)"
  static void p03_the_tape_is_empty_then_whatever_n() {
    for (int n : new int[] {0, 8, 20}) {
      SlotKeeper k = RICH.make();
      due("board(" + n + ")", k.board(n), 0);
      due("count(8)", k.count(8), 0);
      iae("board(1)", k, x -> x.board(1));
    }
  }

  static void p03_the_tape_is_empty_then_with_a_fault_too() {
    for (int n : new int[] {1, 7, 9}) {
      SlotKeeper k = RICH.make();
      due("board(" + n + ")", k.board(n), 1);
      due("count(8)", k.count(8), 0);
      due("feed", k.feed(0, 0, 0, 0, 0), 20);
    }
  }

  // "all anew (GAPS, SHIFT, FREEZE, NOW as at first, if not told; DONE, ACTS are gone; ..)"
  static void p03_all_is_anew() {
    for (Maker m : new Maker[] {RICH, FULL}) {
      SlotKeeper k = m.make();
      int n = k.count(8);
      k.board(n == 500 ? 0 : n);
      due("count(1)", k.count(1), 0);
      due("DONE", k.count(5), 0);
      due("ACTS", k.count(7), 0);
      due("undo()", k.undo(), -1);
      due("CLOSED", k.count(6), 0);
      for (int x = 0; x < 64; x++) due("gap", k.gap(x / 8, x % 8), 3);
    }
    SlotKeeper k = RICH.make();
    k.board(20);
    due("SHIFT as told", k.count(2), 3);
    due("FREEZE as told", k.count(3), 7);
    k.board(0);
    due("SHIFT as at first", k.count(2), 2);
    due("FREEZE as at first", k.count(3), 10);
  }

  static void p03_nobody_is_hurried_then() {
    SlotKeeper k = alike(3, 5);
    for (int c = 0; c < 3; c++) k.hurry(c, 1);
    due("board", read(k, "craft lands 0 1 2 3;craft lands 0 1 2 3;craft lands 0 1 2 3;"), 0);
    for (int c = 0; c < 3; c++) due("craft(" + c + ", 11)", k.craft(c, 11), 0);
  }

  // "CRAFT in THE PLAN as they come"
  static void p03_craft_are_in_the_plan_as_they_come() {
    SlotKeeper k = told("craft lands 0 900 901 1;craft lands 1 5 6 2;craft leaves 3 100 101 3;");
    same("THE PLAN", plan(k), "012");
    due("craft(1, 0)", k.craft(1, 0), 2);
    due("craft(2, 0)", k.craft(2, 0), 7);
    same("SLOTS", slots(k), "900 903 906");
  }

  // "0, or the FAULT (all else stays)"
  static void p03_with_a_fault_all_else_stays() {
    String wrong = "gap lands 0 lands 0 9;shift 0;freeze 1;closed 1 2;craft lands 0 1 2 3;x";
    for (Maker m : new Maker[] {EMPTY, RICH}) {
      Maker faulty = () -> {
        SlotKeeper k = m.make();
        feed(k, wrong);
        due("board with a FAULT", k.board(k.count(8)), 1);
        return k;
      };
      same("all else", lookWithoutTape(faulty), lookWithoutTape(m));
    }
    for (String text : new String[] {"x", "shift 4;", TEN + "craft"}) {
      Maker faulty = () -> {
        SlotKeeper k = alike(10, 7);
        k.say();
        check(read(k, text) > 0, text + " has a FAULT");
        return k;
      };
      same("all else after " + text, lookWithoutTape(faulty), lookWithoutTape(() -> {
        SlotKeeper k = alike(10, 7);
        k.say();
        return k;
      }));
    }
  }

  static void p03_it_is_no_act_and_cant_be_undone() {
    SlotKeeper k = told("shift 0;");
    due("count(7)", k.count(7), 0);
    due("undo()", k.undo(), -1);
    due("count(2)", k.count(2), 0);
  }

  // "The tape's first n bytes": what is behind them is nothing of the TEXT
  static void p03_a_token_is_cut_at_n() {
    SlotKeeper k = new SlotKeeper();
    feed(k, "closed 12 345;");
    due("board(11)", k.board(11), 2);
    due("fault(): B is 3", k.fault(), 10);
    feed(k, "closed 12 345;");
    due("board(13)", k.board(13), 1);
    due("fault(): the ; is behind n", k.fault(), 13);
    feed(k, "shift 1;freeze 55;");
    due("board(8)", k.board(8), 0);
    due("count(3)", k.count(3), 10);
    due("count(2)", k.count(2), 1);
  }

  // "A TEXT of at most 500 bytes"
  static void p03_the_500th_byte_counts() {
    String text = " ".repeat(492) + "shift 0;";
    SlotKeeper k = told(text);
    due("count(2)", k.count(2), 0);
    feed(k, text);
    due("board(499)", k.board(499), 1);
    due("fault()", k.fault(), 499);
    feed(k, " ".repeat(499) + "x");
    due("board(500)", k.board(500), 1);
    due("fault()", k.fault(), 499);
    fault(" ".repeat(493) + "shift 1", 1, 500);
  }

  // "TEXT: (LINE ';')*", "* any number of times"
  static void p03_no_line_and_many_lines() {
    fine("");
    fine(" ");
    fine("\n \n ");
    SlotKeeper k = told("freeze 1;".repeat(55));
    due("count(3)", k.count(3), 1);
    fault(";", 1, 0);
    fault("shift 1;;", 1, 8);
  }

  // "words (a .. z, the longest row)"
  static void p03_words_are_the_longest_row() {
    fault("shifts 1;", 1, 0);
    fault("shif 1;", 1, 0);
    fault("gaplands 0 lands 0 1;", 1, 0);
    fault("gap landslands 0 lands 0 1;", 1, 4);
    fault("gap lan ds 0 lands 0 1;", 1, 4);
    fault("sh ift 1;", 1, 0);
    fine("shift1;");
    fine("gap lands0leaves1 5;");
    fault("a;", 1, 0);
    fault("z;", 1, 0);
  }

  static void p03_each_letter_of_a_word_counts() {
    String[] texts = {"shift 1;", "freeze 1;", "closed 1 2;", "gap lands 0 leaves 0 1;", "craft leaves 0 1 2 3;"};
    for (String text : texts) {
      fine(text);
      int start = 0;
      for (int i = 0; i < text.length(); i++) {
        if (text.charAt(i) < 'a') start = i + 1;
        else fault(text.substring(0, i) + 'q' + text.substring(i + 1), 1, start);
      }
    }
  }

  // "NUMBERS (the longest row of figures)"
  static void p03_numbers_are_the_longest_row() {
    SlotKeeper k = told("closed12 13;freeze 0;");
    due("closed(0, false)", k.closed(0, false), 12);
    fault("closed 1213;", 1, 11);
    fault("freeze 1 0;", 1, 9);
    fault("craft lands 0 56 78;", 1, 19);
    SlotKeeper all = told("closed 1023 1946;closed 578 1999;");
    due("closed(0, false)", all.closed(0, false), 1023);
    due("closed(0, true)", all.closed(0, true), 1946);
    due("closed(1, false)", all.closed(1, false), 578);
  }

  static void p03_numbers_may_be_longer_than_an_int() {
    fault("shift 4294967297;", 2, 6);
    fault("shift 4294967296;", 2, 6);
    fault("freeze 18446744073709551617;", 2, 7);
    fault("shift 2147483648;", 2, 6);
    fault("freeze " + "9".repeat(400) + ";", 2, 7);
    fault("freeze 1" + "0".repeat(300) + ";", 2, 7);
    fault("freeze 100000;", 2, 7);
    fault("freeze 1000001;", 2, 7);
    fine("freeze " + "0".repeat(300) + ";");
    SlotKeeper k = told("freeze " + "0".repeat(30) + "99;");
    due("count(3)", k.count(3), 99);
  }

  // "blanks (32, 10) between them, which count for nothing"
  static void p03_blanks_count_for_nothing() {
    String[] tokens = {"gap", "lands", "1", "leaves", "2", "45", ";", "craft", "leaves", "3", "9", "10", "20", ";"};
    for (String blank : new String[] {" ", "\n", " \n\n  "}) {
      SlotKeeper k = told(blank + String.join(blank, tokens) + blank);
      due("gap(2, 5)", k.gap(2, 5), 45);
      due("craft(0, 0)", k.craft(0, 0), 7);
    }
    SlotKeeper k = told("gap lands1leaves2 45;craft leaves3 9 10 20;");
    due("gap(2, 5)", k.gap(2, 5), 45);
  }

  // "1 it can't stand there (also a byte that begins none; ..)"
  static void p03_each_byte_that_begins_no_token() {
    for (int b = 0; b < 256; b++) {
      boolean begins = b >= 'a' && b <= 'z' || b >= '0' && b <= '9' || b == ';' || b == 32 || b == 10;
      String sign = String.valueOf((char) b);
      if (b == 32 || b == 10) fine("shift" + sign + "1" + sign + ";");
      else fault("shift 1" + sign + ";", b == ';' ? 1 : b >= '0' && b <= '9' ? 2 : 1, b == ';' ? 8 : b >= '0' && b <= '9' ? 6 : 7);
      if (!begins) {
        fault(sign, 1, 0);
        fault("shift 1;\n" + sign, 1, 9);
        fault("sh" + sign + "ift 1;", 1, 0);
        fault("shift" + sign + "1;", 1, 5);
      }
    }
  }

  private static final String[][] LINES = {
    {"gap", "lands", "0", "leaves", "1", "5", ";"},
    {"craft", "leaves", "0", "5", "6", "7", ";"},
    {"closed", "5", "6", ";"},
    {"shift", "1", ";"},
    {"freeze", "1", ";"}};

  private static boolean isNumber(String token) {
    return token.charAt(0) >= '0' && token.charAt(0) <= '9';
  }

  static void p03_each_token_that_cant_stand_there() {
    for (String[] line : LINES)
      for (int at = 0; at < line.length; at++) {
        String before = String.join(" ", Arrays.copyOf(line, at));
        if (at > 0) before += " ";
        List<String> others = new ArrayList<>(List.of("x", "gap", "craft", "closed", "shift", "freeze", "lands", "leaves", "1", ";", "A"));
        if (at == 0) others.removeAll(List.of("gap", "craft", "closed", "shift", "freeze"));
        else if (line[at].equals("lands") || line[at].equals("leaves")) others.removeAll(List.of("lands", "leaves"));
        else if (isNumber(line[at])) others.remove("1");
        else others.remove(";");
        for (String other : others) fault(before + other, 1, before.length());
      }
  }

  // "(.. the end, where the text can't end: its length)"
  static void p03_each_place_where_the_text_cant_end() {
    for (String[] line : LINES) {
      for (int length = 1; length < line.length; length++) {
        String text = String.join(" ", Arrays.copyOf(line, length));
        fault(text, 1, text.length());
        fault(text + " \n ", 1, text.length() + 3);
        fault("shift 0;" + text, 1, text.length() + 8);
      }
      fine(String.join(" ", line));
    }
  }

  // "2 it is a NUMBER that isn't as told: KIND 0 to 3"
  static void p03_kind_0_to_3() {
    for (int kind = 0; kind < 4; kind++) {
      SlotKeeper k = told("craft lands " + kind + " 1 2 3;craft leaves " + kind + " 1 2 3;gap leaves " + kind + " lands " + kind + " 77;");
      due("SORT of one that lands", k.craft(0, 0), 2 * kind);
      due("SORT of one that leaves", k.craft(1, 0), 2 * kind + 1);
      due("gap", k.gap(2 * kind + 1, 2 * kind), 77);
      due("gap the other way", k.gap(2 * kind, 2 * kind + 1), 3);
    }
    fault("craft lands 4 1 2 3;", 2, 12);
    fault("craft leaves 4 1 2 3;", 2, 13);
    fault("gap lands 4 lands 0 1;", 2, 10);
    fault("gap lands 0 leaves 4 1;", 2, 19);
  }

  // "a GAP 0 to 99"
  static void p03_gap_0_to_99() {
    due("gap(0, 0)", told("gap lands 0 lands 0 0;").gap(0, 0), 0);
    due("gap(0, 0)", told("gap lands 0 lands 0 99;").gap(0, 0), 99);
    fault("gap lands 0 lands 0 100;", 2, 20);
  }

  // "READY 0 to 999"
  static void p03_ready_0_to_999() {
    due("craft(0, 1)", told("craft lands 0 0 5 1;").craft(0, 1), 0);
    due("craft(0, 1)", told("craft lands 0 999 1999 1;").craft(0, 1), 999);
    fault("craft lands 0 1000 1999 1;", 2, 14);
  }

  // "LATEST READY to 1999"
  static void p03_latest_ready_to_1999() {
    due("craft(0, 2)", told("craft lands 0 7 7 1;").craft(0, 2), 7);
    due("craft(0, 2)", told("craft lands 0 0 0 1;").craft(0, 2), 0);
    due("craft(0, 2)", told("craft lands 0 999 999 1;").craft(0, 2), 999);
    due("craft(0, 2)", told("craft lands 0 7 1999 1;").craft(0, 2), 1999);
    fault("craft lands 0 7 6 1;", 2, 16);
    fault("craft lands 0 999 998 1;", 2, 18);
    fault("craft lands 0 7 2000 1;", 2, 16);
  }

  // "WEIGHT 0 to 20"
  static void p03_weight_0_to_20() {
    due("craft(0, 3)", told("craft lands 0 7 9 0;").craft(0, 3), 0);
    due("craft(0, 3)", told("craft lands 0 7 9 20;").craft(0, 3), 20);
    fault("craft lands 0 7 9 21;", 2, 18);
  }

  // "A 0 to 1998, B above A, 1999 at most"
  static void p03_a_0_to_1998_b_above_a_1999_at_most() {
    SlotKeeper k = told("closed 0 1;closed 1998 1999;closed 0 1999;");
    due("closed(0, false)", k.closed(0, false), 0);
    due("closed(0, true)", k.closed(0, true), 1);
    due("closed(1, false)", k.closed(1, false), 1998);
    due("closed(2, true)", k.closed(2, true), 1999);
    fault("closed 1999 2000;", 2, 7);
    fault("closed 5 5;", 2, 9);
    fault("closed 5 4;", 2, 9);
    fault("closed 5 2000;", 2, 9);
    fault("closed 0 0;", 2, 9);
  }

  // "SHIFT 0 to 3, FREEZE 0 to 99"
  static void p03_shift_0_to_3_freeze_0_to_99() {
    due("count(2)", told("shift 0;").count(2), 0);
    due("count(2)", told("shift 3;").count(2), 3);
    fault("shift 4;", 2, 6);
    due("count(3)", told("freeze 0;").count(3), 0);
    due("count(3)", told("freeze 99;").count(3), 99);
    fault("freeze 100;", 2, 7);
  }

  // "3 the word of an 11th CRAFT"
  static void p03_the_word_of_an_11th_craft() {
    due("count(0)", told(TEN).count(0), 10);
    fault(TEN + "craft lands0 0 9 1;", 3, TEN.length());
    fault(TEN + "  craft", 3, TEN.length() + 2);
    fault(TEN + "shift 1;craft x", 3, TEN.length() + 8);
    fault(TEN + "crafts", 1, TEN.length());
    fine(TEN + "shift 1;closed 1 2;");
  }

  // "of a 5th CLOSED span"
  static void p03_the_word_of_a_5th_closed_span() {
    due("count(6)", told(FOUR).count(6), 4);
    fault(FOUR + "closed 8 9;", 3, FOUR.length());
    fault(FOUR + "\nclosed", 3, FOUR.length() + 1);
    fault(FOUR + "closed 9 8;", 3, FOUR.length());
    fault(FOUR + TEN + "closed", 3, FOUR.length() + TEN.length());
    fine(FOUR + TEN);
  }

  // "at the first TOKEN at which one of these is so"
  static void p03_the_first_token_with_a_fault_counts() {
    fault("shift 9 x", 2, 6);
    fault("shift x 9;", 1, 6);
    fault("craft lands 9 1000 1 99;", 2, 12);
    fault("craft lands 0 1000 5 99;", 2, 14);
    fault(TEN + "shift 4;craft", 2, TEN.length() + 6);
    fault(TEN + "shift ;craft", 1, TEN.length() + 6);
  }

  // "it is that (the first one of this list)"
  static void p03_of_several_faults_the_first_one_counts() {
    fault("shift 1 99999;", 1, 8);
    fault("99999", 1, 0);
    fault("gap 99999", 1, 4);
    fault(TEN + "shift craft", 1, TEN.length() + 6);
    fault(FOUR + "closed", 3, FOUR.length());
    fault(FOUR + "shift 1 closed", 1, FOUR.length() + 8);
  }

  // "The place of the latest board()'s FAULT (that was no IllegalArgumentException)"
  static void p04_the_latest_board_counts() {
    SlotKeeper k = new SlotKeeper();
    read(k, "shift 1;  x");
    due("fault()", k.fault(), 10);
    read(k, "shift 7;");
    due("fault()", k.fault(), 6);
    read(k, "shift");
    due("fault()", k.fault(), 5);
  }

  static void p04_one_that_threw_doesnt_count() {
    SlotKeeper k = new SlotKeeper();
    read(k, "   x");
    iae("board(1)", k, x -> x.board(1));
    due("fault()", k.fault(), 3);
    iae("board(-1)", k, x -> x.board(-1));
    due("fault()", k.fault(), 3);
    k.board(0);
    iae("board(1)", k, x -> x.board(1));
    due("fault()", k.fault(), -1);
    SlotKeeper fresh = new SlotKeeper();
    iae("board(1)", fresh, x -> x.board(1));
    due("fault()", fresh.fault(), -1);
  }

  // "NONE: it had none, or there was none."
  static void p04_none_with_no_fault_or_no_board() {
    SlotKeeper k = new SlotKeeper();
    due("fault()", k.fault(), -1);
    k.feed(0, 0, 0, 0, 0);
    due("fault()", k.fault(), -1);
    k.board(20);
    due("fault()", k.fault(), 0);
    k.board(0);
    due("fault()", k.fault(), -1);
  }

  static void p04_acts_and_undoing_leave_it() {
    SlotKeeper k = new SlotKeeper();
    read(k, "shift 1;?");
    k.come(0, 1, 1, 1);
    due("fault()", k.fault(), 8);
    k.undo();
    due("fault()", k.fault(), 8);
    onlyAsks("fault()", RICH, SlotKeeper::fault);
  }

  public static void main(String[] args) throws Exception {
    runAll(BoundaryTextTest.class, 1, 4);
  }
}
