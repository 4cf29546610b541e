/-! The class's boards: more changes. -/
section BCHG2
variable {d : Nat} {L : hL} {I : Nat → Nat → Int32} {J : Nat → Nat → Int64} {t : tl} {b n sn dn : Nat} {F : Int32 → hp → Prop} {G : hp → Prop} {X : Nat → hp → Prop}
--facts LB_ hB, hn0
theorem sp_isFull (hB : LB L b) (hn0 : I b 0 = nI n) (hn : n ≤ 10) (k : F (bI (decide (n = 10))) (L, I, J, t)) : cal (d + 1) 76 [.ref b] (L, I, J, t) (kI F X) := by
  refine e76 (t76_0 ?_)
  simp (disch := omega) only [vpT, nI_leI, nI_ltI, nI_eq, nleT, nleF, nltT, nltF, neqT, neqF, nI_add, pk_mul, subN, divN, nI_clamp, mI1, wrH, wrM1, wrM2, wrowH, wrowM, bI0, bI1, kIi, kVi, kRi, kLi, kIx, kVx, Option.some.injEq, exists_eq_left', true_and, and_true, true_implies, false_implies, implies_true, not_true_eq_false, not_false_eq_true, true_or, or_true, false_or, or_false, forall_eq, iteT, iteF, LB_ hB, hn0]
  refine ⟨fun h => ?_, fun h => ?_⟩
  · rw [decide_eq_false (by omega)] at k; exact k
  · rw [decide_eq_true (by omega)] at k; exact k
theorem sp_addCraft {so re la we : Int32} (hB : LB L b) (hn0 : I b 0 = nI n) (hn : n < 10) (k : ∀ I2, same I I2 (fun a => b ≤ a ∧ a ≤ b + 12) → Add (bd I b) (bd I2 b) n so re la we → G (L, I2, J, t)) : cal (d + 2) 77 [.ref b, .int so, .int re, .int la, .int we] (L, I, J, t) (kV G X) := by
  refine e77 (t77_0 ?_)
  simp (disch := omega) only [vpT, nI_leI, nI_ltI, nI_eq, nleT, nleF, nltT, nltF, neqT, neqF, nI_add, pk_mul, subN, divN, nI_clamp, mI1, wrH, wrM1, wrM2, wrowH, wrowM, bI0, bI1, kIi, kVi, kRi, kLi, kIx, kVx, Option.some.injEq, exists_eq_left', true_and, and_true, true_implies, false_implies, implies_true, not_true_eq_false, not_false_eq_true, true_or, or_true, false_or, or_false, forall_eq, iteT, iteF, LB_ hB, hn0]
  refine sp_isFull hB hn0 (by omega) (t77_4 ?_)
  simp (disch := omega) only [vpT, nI_leI, nI_ltI, nI_eq, nleT, nleF, nltT, nltF, neqT, neqF, nI_add, pk_mul, subN, divN, nI_clamp, mI1, wrH, wrM1, wrM2, wrowH, wrowM, bI0, bI1, kIi, kVi, kRi, kLi, kIx, kVx, Option.some.injEq, exists_eq_left', true_and, and_true, true_implies, false_implies, implies_true, not_true_eq_false, not_false_eq_true, true_or, or_true, false_or, or_false, forall_eq, iteT, iteF, LB_ hB, hn0, decide_false]
  refine k _ (fun a ha => ?_) ⟨⟨?_, fun j hj => ?_⟩, ?_, fun k hk => ?_, ?_⟩
  · simp (disch := omega) only [vpT, nI_leI, nI_ltI, nI_eq, nleT, nleF, nltT, nltF, neqT, neqF, nI_add, pk_mul, subN, divN, nI_clamp, mI1, wrH, wrM1, wrM2, wrowH, wrowM, bI0, bI1, kIi, kVi, kRi, kLi, kIx, kVx, Option.some.injEq, exists_eq_left', true_and, and_true, true_implies, false_implies, implies_true, not_true_eq_false, not_false_eq_true, true_or, or_true, false_or, or_false, forall_eq, iteT, iteF, LB_ hB, hn0]
  · simp (disch := omega) only [vpT, nI_leI, nI_ltI, nI_eq, nleT, nleF, nltT, nltF, neqT, neqF, nI_add, pk_mul, subN, divN, nI_clamp, mI1, wrH, wrM1, wrM2, wrowH, wrowM, bI0, bI1, kIi, kVi, kRi, kLi, kIx, kVx, Option.some.injEq, exists_eq_left', true_and, and_true, true_implies, false_implies, implies_true, not_true_eq_false, not_false_eq_true, true_or, or_true, false_or, or_false, forall_eq, iteT, iteF, bd, bF, bSo, bRe, bLa, bWe, bHu, bOr, bGa, bSF, bST, bDo, bDS, bDW, LB_ hB, hn0]
  · simp (disch := omega) only [vpT, nI_leI, nI_ltI, nI_eq, nleT, nleF, nltT, nltF, neqT, neqF, nI_add, pk_mul, subN, divN, nI_clamp, mI1, wrH, wrM1, wrM2, wrowH, wrowM, bI0, bI1, kIi, kVi, kRi, kLi, kIx, kVx, Option.some.injEq, exists_eq_left', true_and, and_true, true_implies, false_implies, implies_true, not_true_eq_false, not_false_eq_true, true_or, or_true, false_or, or_false, forall_eq, iteT, iteF, bd, bF, bSo, bRe, bLa, bWe, bHu, bOr, bGa, bSF, bST, bDo, bDS, bDW, LB_ hB, hn0]
  · simp (disch := omega) only [vpT, nI_leI, nI_ltI, nI_eq, nleT, nleF, nltT, nltF, neqT, neqF, nI_add, pk_mul, subN, divN, nI_clamp, mI1, wrH, wrM1, wrM2, wrowH, wrowM, bI0, bI1, kIi, kVi, kRi, kLi, kIx, kVx, Option.some.injEq, exists_eq_left', true_and, and_true, true_implies, false_implies, implies_true, not_true_eq_false, not_false_eq_true, true_or, or_true, false_or, or_false, forall_eq, iteT, iteF, bd, bF, bSo, bRe, bLa, bWe, bHu, bOr, bGa, bSF, bST, bDo, bDS, bDW, LB_ hB, hn0]
  · simp (disch := omega) only [vpT, nI_leI, nI_ltI, nI_eq, nleT, nleF, nltT, nltF, neqT, neqF, nI_add, pk_mul, subN, divN, nI_clamp, mI1, wrH, wrM1, wrM2, wrowH, wrowM, bI0, bI1, kIi, kVi, kRi, kLi, kIx, kVx, Option.some.injEq, exists_eq_left', true_and, and_true, true_implies, false_implies, implies_true, not_true_eq_false, not_false_eq_true, true_or, or_true, false_or, or_false, forall_eq, iteT, iteF, bd, bF, bSo, bRe, bLa, bWe, bHu, bOr, bGa, bSF, bST, bDo, bDS, bDW, LB_ hB, hn0]
  · simp (disch := omega) only [vpT, nI_leI, nI_ltI, nI_eq, nleT, nleF, nltT, nltF, neqT, neqF, nI_add, pk_mul, subN, divN, nI_clamp, mI1, wrH, wrM1, wrM2, wrowH, wrowM, bI0, bI1, kIi, kVi, kRi, kLi, kIx, kVx, Option.some.injEq, exists_eq_left', true_and, and_true, true_implies, false_implies, implies_true, not_true_eq_false, not_false_eq_true, true_or, or_true, false_or, or_false, forall_eq, iteT, iteF, bd, bF, bSo, bRe, bLa, bWe, bHu, bOr, bGa, bSF, bST, bDo, bDS, bDW, LB_ hB, hn0]
theorem sp_addSpan {x y : Int32} (hB : LB L b) (hn0 : I b 8 = nI sn) (hn : sn < 4) (k : G (L, wr (wr (wr I (b + 8) sn x) (b + 9) sn y) b 8 (nI (sn + 1)), J, t)) : cal (d + 1) 79 [.ref b, .int x, .int y] (L, I, J, t) (kV G X) := by
  refine e79 (t79_0 ?_)
  simp (disch := omega) only [vpT, nI_leI, nI_ltI, nI_eq, nleT, nleF, nltT, nltF, neqT, neqF, nI_add, pk_mul, subN, divN, nI_clamp, mI1, wrH, wrM1, wrM2, wrowH, wrowM, bI0, bI1, kIi, kVi, kRi, kLi, kIx, kVx, Option.some.injEq, exists_eq_left', true_and, and_true, true_implies, false_implies, implies_true, not_true_eq_false, not_false_eq_true, true_or, or_true, false_or, or_false, forall_eq, iteT, iteF, LB_ hB, hn0]
  exact k
theorem sp_removeSpan {i : Nat} (hB : LB L b) (hn0 : I b 8 = nI sn) (hi : i < sn) (hn : sn ≤ 4) (k : G (L, wr (wrow (wrow I (b + 8) (rem1 (I (b + 8)) i sn)) (b + 9) (rem1 (I (b + 9)) i sn)) b 8 (nI (sn - 1)), J, t)) : cal (d + 2) 121 [.ref b, .int (nI i)] (L, I, J, t) (kV G X) := by
  refine e121 (t121_0 ?_)
  simp (disch := omega) only [vpT, nI_leI, nI_ltI, nI_eq, nleT, nleF, nltT, nltF, neqT, neqF, nI_add, pk_mul, subN, divN, nI_clamp, mI1, wrH, wrM1, wrM2, wrowH, wrowM, bI0, bI1, kIi, kVi, kRi, kLi, kIx, kVx, Option.some.injEq, exists_eq_left', true_and, and_true, true_implies, false_implies, implies_true, not_true_eq_false, not_false_eq_true, true_or, or_true, false_or, or_false, forall_eq, iteT, iteF, LB_ hB, hn0]
  refine sp_takeOut (N := 4) (LB_ hB).2.2.1.2.2.2.2.2.2.2.1 (LB_ hB).2.2.2.2.2.2.2.2.2.2.1 hi hn (by decide) (t121_12 ?_)
  simp (disch := omega) only [vpT, nI_leI, nI_ltI, nI_eq, nleT, nleF, nltT, nltF, neqT, neqF, nI_add, pk_mul, subN, divN, nI_clamp, mI1, wrH, wrM1, wrM2, wrowH, wrowM, bI0, bI1, kIi, kVi, kRi, kLi, kIx, kVx, Option.some.injEq, exists_eq_left', true_and, and_true, true_implies, false_implies, implies_true, not_true_eq_false, not_false_eq_true, true_or, or_true, false_or, or_false, forall_eq, iteT, iteF, LB_ hB, hn0]
  refine sp_takeOut (N := 4) (LB_ hB).2.2.1.2.2.2.2.2.2.2.2.1 (LB_ hB).2.2.2.2.2.2.2.2.2.2.2.1 hi hn (by decide) (t121_24 ?_)
  simp (disch := omega) only [vpT, nI_leI, nI_ltI, nI_eq, nleT, nleF, nltT, nltF, neqT, neqF, nI_add, pk_mul, subN, divN, nI_clamp, mI1, wrH, wrM1, wrM2, wrowH, wrowM, bI0, bI1, kIi, kVi, kRi, kLi, kIx, kVx, Option.some.injEq, exists_eq_left', true_and, and_true, true_implies, false_implies, implies_true, not_true_eq_false, not_false_eq_true, true_or, or_true, false_or, or_false, forall_eq, iteT, iteF, LB_ hB, hn0]
  exact k
theorem sp_isClosed {x : Int32} (hB : LB L b) (hI : BI (bd I b) n sn dn) (k : F (bI (!decide (opn (bd I b) x = x))) (L, I, J, t)) : cal (d + 2) 92 [.ref b, .int x] (L, I, J, t) (kI F X) := by
  have hn0 := True.intro
  refine e92 (t92_0 ?_)
  simp (disch := omega) only [vpT, nI_leI, nI_ltI, nI_eq, nleT, nleF, nltT, nltF, neqT, neqF, nI_add, pk_mul, subN, divN, nI_clamp, mI1, wrH, wrM1, wrM2, wrowH, wrowM, bI0, bI1, kIi, kVi, kRi, kLi, kIx, kVx, Option.some.injEq, exists_eq_left', true_and, and_true, true_implies, false_implies, implies_true, not_true_eq_false, not_false_eq_true, true_or, or_true, false_or, or_false, forall_eq, iteT, iteF, LB_ hB, hn0]
  refine sp_open hB hI (t92_5 ?_)
  simp (disch := omega) only [vpT, nI_leI, nI_ltI, nI_eq, nleT, nleF, nltT, nltF, neqT, neqF, nI_add, pk_mul, subN, divN, nI_clamp, mI1, wrH, wrM1, wrM2, wrowH, wrowM, bI0, bI1, kIi, kVi, kRi, kLi, kIx, kVx, Option.some.injEq, exists_eq_left', true_and, and_true, true_implies, false_implies, implies_true, not_true_eq_false, not_false_eq_true, true_or, or_true, false_or, or_false, forall_eq, iteT, iteF, LB_ hB, hn0]
  refine ⟨fun h => ?_, fun h => ?_⟩
  · rw [decide_eq_true h] at k; exact k
  · rw [decide_eq_false h] at k; exact k
/-- is it one of a sort (of any, for -1) -/
def isof (S : BS) (y : Int32) (c : Nat) : Bool := decide (y = -1) || decide (bSo S c = y)
theorem sp_isOf {c : Nat} {y : Int32} (hB : LB L b) (hc : c < 10) (k : F (bI (isof (bd I b) y c)) (L, I, J, t)) : cal (d + 1) 169 [.ref b, .int (nI c), .int y] (L, I, J, t) (kI F X) := by
  have hn0 := True.intro
  refine e169 (t169_0 ?_)
  simp (disch := omega) only [vpT, nI_leI, nI_ltI, nI_eq, nleT, nleF, nltT, nltF, neqT, neqF, nI_add, pk_mul, subN, divN, nI_clamp, mI1, wrH, wrM1, wrM2, wrowH, wrowM, bI0, bI1, kIi, kVi, kRi, kLi, kIx, kVx, Option.some.injEq, exists_eq_left', true_and, and_true, true_implies, false_implies, implies_true, not_true_eq_false, not_false_eq_true, true_or, or_true, false_or, or_false, forall_eq, iteT, iteF, LB_ hB, hn0]
  refine ⟨fun h => ?_, fun h => ⟨fun h2 => ?_, fun h2 => ?_⟩⟩
  · rw [show isof (bd I b) y c = true by unfold isof; rw [decide_eq_true h]; rfl] at k; exact k
  · rw [show isof (bd I b) y c = false by unfold isof; rw [decide_eq_false h, decide_eq_false (show ¬ bSo (bd I b) c = y from h2)]; rfl] at k; exact k
  · rw [show isof (bd I b) y c = true by unfold isof; rw [decide_eq_true (show bSo (bd I b) c = y from h2), Bool.or_true]] at k; exact k
theorem sp_countOf {y : Int32} (hB : LB L b) (hI : BI (bd I b) n sn dn) (k : F (nI (cntB (isof (bd I b) y) n)) (L, I, J, t)) : cal (d + 2) 168 [.ref b, .int y] (L, I, J, t) (kI F X) := by
  have hn0 : I b 0 = nI n := hI.1.1
  have hn := hI.1.2
  refine e168 (t168_0 ?_)
  refine lq (n := n) (fun i => [some (.ref b), some (.int y), some (.int (nI (cntB (isof (bd I b) y) i))), some (.int (nI i))]) (fun i hi ih => t168_4 ?_) (t168_4 ?_)
  · simp (disch := omega) only [vpT, nI_leI, nI_ltI, nI_eq, nleT, nleF, nltT, nltF, neqT, neqF, nI_add, pk_mul, subN, divN, nI_clamp, mI1, wrH, wrM1, wrM2, wrowH, wrowM, bI0, bI1, kIi, kVi, kRi, kLi, kIx, kVx, Option.some.injEq, exists_eq_left', true_and, and_true, true_implies, false_implies, implies_true, not_true_eq_false, not_false_eq_true, true_or, or_true, false_or, or_false, forall_eq, iteT, iteF, LB_ hB, hn0]
    refine sp_isOf hB (by omega) (t168_18 ?_)
    simp (disch := omega) only [vpT, nI_leI, nI_ltI, nI_eq, nleT, nleF, nltT, nltF, neqT, neqF, nI_add, pk_mul, subN, divN, nI_clamp, mI1, wrH, wrM1, wrM2, wrowH, wrowM, bI0, bI1, kIi, kVi, kRi, kLi, kIx, kVx, Option.some.injEq, exists_eq_left', true_and, and_true, true_implies, false_implies, implies_true, not_true_eq_false, not_false_eq_true, true_or, or_true, false_or, or_false, forall_eq, iteT, iteF, LB_ hB, hn0]
    refine ⟨fun h => ?_, fun h => ?_⟩
    · rw [cntB_f h] at ih; exact ih
    · rw [cntB_t (by simpa using h)] at ih; exact ih
  · simp (disch := omega) only [vpT, nI_leI, nI_ltI, nI_eq, nleT, nleF, nltT, nltF, neqT, neqF, nI_add, pk_mul, subN, divN, nI_clamp, mI1, wrH, wrM1, wrM2, wrowH, wrowM, bI0, bI1, kIi, kVi, kRi, kLi, kIx, kVx, Option.some.injEq, exists_eq_left', true_and, and_true, true_implies, false_implies, implies_true, not_true_eq_false, not_false_eq_true, true_or, or_true, false_or, or_false, forall_eq, iteT, iteF, LB_ hB, hn0]
    exact k
/-- is it one that leaves -/
def lvs1 (S : BS) (c : Nat) : Bool := decide ((bSo S c).toNatClampNeg % 2 = 1)
theorem sp_leaves {c : Nat} (hB : LB L b) (hI : BI (bd I b) n sn dn) (hc : c < n) (k : F (bI (lvs1 (bd I b) c)) (L, I, J, t)) : cal (d + 1) 58 [.ref b, .int (nI c)] (L, I, J, t) (kI F X) := by
  have hn0 := True.intro
  have hn := hI.1.2
  obtain ⟨z, hz, ez⟩ := hI.2.2.2.1 c hc
  have ez' : I (b + 1) c = nI z := ez
  refine e58 (t58_0 ?_)
  unfold lvs1 at k
  rw [ez, nI_clamp (by omega)] at k
  simp (disch := omega) only [vpT, nI_leI, nI_ltI, nI_eq, nleT, nleF, nltT, nltF, neqT, neqF, nI_add, pk_mul, subN, divN, nI_clamp, mI1, wrH, wrM1, wrM2, wrowH, wrowM, bI0, bI1, kIi, kVi, kRi, kLi, kIx, kVx, Option.some.injEq, exists_eq_left', true_and, and_true, true_implies, false_implies, implies_true, not_true_eq_false, not_false_eq_true, true_or, or_true, false_or, or_false, forall_eq, iteT, iteF, LB_ hB, hn0, ez']
  refine ⟨fun h => ?_, fun h => ?_⟩
  · rw [decide_eq_false (by omega)] at k; exact k
  · rw [decide_eq_true (by omega)] at k; exact k
theorem sp_setOrder {a : Nat} (hB : LB L b) (ha : L.1 a = 20) (hl : L.2.1 a = 10) (k : G (L, wrow I (b + 6) (va_cpy (I a) (I (b + 6)) 0 0 10), J, t)) : cal (d + 2) 138 [.ref b, .ref a] (L, I, J, t) (kV G X) := by
  have hn0 := True.intro
  refine e138 (t138_0 ?_)
  simp (disch := omega) only [vpT, nI_leI, nI_ltI, nI_eq, nleT, nleF, nltT, nltF, neqT, neqF, nI_add, pk_mul, subN, divN, nI_clamp, mI1, wrH, wrM1, wrM2, wrowH, wrowM, bI0, bI1, kIi, kVi, kRi, kLi, kIx, kVx, Option.some.injEq, exists_eq_left', true_and, and_true, true_implies, false_implies, implies_true, not_true_eq_false, not_false_eq_true, true_or, or_true, false_or, or_false, forall_eq, iteT, iteF, LB_ hB, hn0]
  refine sp_copyRow (N := 10) ha hl (LB_ hB).2.2.1.2.2.2.2.2.1 (LB_ hB).2.2.2.2.2.2.2.2.1 (by decide) (t138_8 ?_)
  simp (disch := omega) only [vpT, nI_leI, nI_ltI, nI_eq, nleT, nleF, nltT, nltF, neqT, neqF, nI_add, pk_mul, subN, divN, nI_clamp, mI1, wrH, wrM1, wrM2, wrowH, wrowM, bI0, bI1, kIi, kVi, kRi, kLi, kIx, kVx, Option.some.injEq, exists_eq_left', true_and, and_true, true_implies, false_implies, implies_true, not_true_eq_false, not_false_eq_true, true_or, or_true, false_or, or_false, forall_eq, iteT, iteF, LB_ hB, hn0]
  exact k
theorem sp_clearAway (hB : LB L b) (k : G (L, wr (wr (wr I b 0 (nI 0)) b 14 (nI 0)) b 13 (nI 0), J, t)) : cal (d + 1) 4 [.ref b] (L, I, J, t) (kV G X) := by
  have hn0 := True.intro
  refine e4 (t4_0 ?_)
  simp (disch := omega) only [vpT, nI_leI, nI_ltI, nI_eq, nleT, nleF, nltT, nltF, neqT, neqF, nI_add, pk_mul, subN, divN, nI_clamp, mI1, wrH, wrM1, wrM2, wrowH, wrowM, bI0, bI1, kIi, kVi, kRi, kLi, kIx, kVx, Option.some.injEq, exists_eq_left', true_and, and_true, true_implies, false_implies, implies_true, not_true_eq_false, not_false_eq_true, true_or, or_true, false_or, or_false, forall_eq, iteT, iteF, LB_ hB, hn0]
  exact k
theorem sp_fill {a N : Nat} {x : Int32} (ha : L.1 a = 20) (hl : L.2.1 a = N) (hN : N < 100) (k : ∀ I2, same I I2 (fun q => q = a) → (∀ j, j < N → I2 a j = x) → G (L, I2, J, t)) : cal (d + 1) 5 [.ref a, .int x] (L, I, J, t) (kV G X) := by
  refine e5 (t5_0 ?_)
  simp (disch := omega) only [vpT, nI_leI, nI_ltI, nI_eq, nleT, nleF, nltT, nltF, neqT, neqF, nI_add, pk_mul, subN, divN, nI_clamp, mI1, wrH, wrM1, wrM2, wrowH, wrowM, bI0, bI1, kIi, kVi, kRi, kLi, kIx, kVx, Option.some.injEq, exists_eq_left', true_and, and_true, true_implies, false_implies, implies_true, not_true_eq_false, not_false_eq_true, true_or, or_true, false_or, or_false, forall_eq, iteT, iteF, ha, hl]
  refine lg (n := N) (fun i l h => ∃ I2, l = [some (.ref a), some (.int x), some (.int (nI i)), some (.int (nI N))] ∧ h = (L, I2, J, t) ∧ same I I2 (fun q => q = a) ∧ ∀ j, j < i → I2 a j = x) ?_ ?_ (Nat.zero_le _) _ _ ⟨I, rfl, rfl, same.rf, fun j hj => by omega⟩
  · rintro i hi ih _ _ ⟨I2, rfl, rfl, hs, hd⟩
    refine t5_5 ?_
    simp (disch := omega) only [vpT, nI_leI, nI_ltI, nI_eq, nleT, nleF, nltT, nltF, neqT, neqF, nI_add, pk_mul, subN, divN, nI_clamp, mI1, wrH, wrM1, wrM2, wrowH, wrowM, bI0, bI1, kIi, kVi, kRi, kLi, kIx, kVx, Option.some.injEq, exists_eq_left', true_and, and_true, true_implies, false_implies, implies_true, not_true_eq_false, not_false_eq_true, true_or, or_true, false_or, or_false, forall_eq, iteT, iteF, ha, hl]
    refine ih _ _ ⟨_, rfl, rfl, fun q hq => ?_, fun j hj => ?_⟩
    · rw [wrM1 hq]; exact hs q hq
    · by_cases e : j = i
      · simp (disch := omega) only [vpT, nI_leI, nI_ltI, nI_eq, nleT, nleF, nltT, nltF, neqT, neqF, nI_add, pk_mul, subN, divN, nI_clamp, mI1, wrH, wrM1, wrM2, wrowH, wrowM, bI0, bI1, kIi, kVi, kRi, kLi, kIx, kVx, Option.some.injEq, exists_eq_left', true_and, and_true, true_implies, false_implies, implies_true, not_true_eq_false, not_false_eq_true, true_or, or_true, false_or, or_false, forall_eq, iteT, iteF]
      · simp (disch := omega) only [vpT, nI_leI, nI_ltI, nI_eq, nleT, nleF, nltT, nltF, neqT, neqF, nI_add, pk_mul, subN, divN, nI_clamp, mI1, wrH, wrM1, wrM2, wrowH, wrowM, bI0, bI1, kIi, kVi, kRi, kLi, kIx, kVx, Option.some.injEq, exists_eq_left', true_and, and_true, true_implies, false_implies, implies_true, not_true_eq_false, not_false_eq_true, true_or, or_true, false_or, or_false, forall_eq, iteT, iteF]
        exact hd j (by omega)
  · rintro _ _ ⟨I2, rfl, rfl, hs, hd⟩
    refine t5_5 ?_
    simp (disch := omega) only [vpT, nI_leI, nI_ltI, nI_eq, nleT, nleF, nltT, nltF, neqT, neqF, nI_add, pk_mul, subN, divN, nI_clamp, mI1, wrH, wrM1, wrM2, wrowH, wrowM, bI0, bI1, kIi, kVi, kRi, kLi, kIx, kVx, Option.some.injEq, exists_eq_left', true_and, and_true, true_implies, false_implies, implies_true, not_true_eq_false, not_false_eq_true, true_or, or_true, false_or, or_false, forall_eq, iteT, iteF, ha, hl]
    exact k I2 hs hd
/-- a board as at first -/
def New (S S' : BS) : Prop := (bF S' 0 = nI 0 ∧ bF S' 8 = nI 0 ∧ bF S' 11 = nI 2 ∧ bF S' 12 = nI 10 ∧ bF S' 13 = nI 0 ∧ bF S' 14 = nI 0) ∧ ∀ j, j < 64 → bGa S' j = nI 3
theorem sp_makeNew (hB : LB L b) (k : ∀ I2, same I I2 (fun a => a = b ∨ a = b + 7) → New (bd I b) (bd I2 b) → G (L, I2, J, t)) : cal (d + 2) 3 [.ref b] (L, I, J, t) (kV G X) := by
  have hn0 := True.intro
  refine e3 (t3_0 ?_)
  simp (disch := omega) only [vpT, nI_leI, nI_ltI, nI_eq, nleT, nleF, nltT, nltF, neqT, neqF, nI_add, pk_mul, subN, divN, nI_clamp, mI1, wrH, wrM1, wrM2, wrowH, wrowM, bI0, bI1, kIi, kVi, kRi, kLi, kIx, kVx, Option.some.injEq, exists_eq_left', true_and, and_true, true_implies, false_implies, implies_true, not_true_eq_false, not_false_eq_true, true_or, or_true, false_or, or_false, forall_eq, iteT, iteF, LB_ hB, hn0]
  refine sp_clearAway hB (t3_4 ?_)
  simp (disch := omega) only [vpT, nI_leI, nI_ltI, nI_eq, nleT, nleF, nltT, nltF, neqT, neqF, nI_add, pk_mul, subN, divN, nI_clamp, mI1, wrH, wrM1, wrM2, wrowH, wrowM, bI0, bI1, kIi, kVi, kRi, kLi, kIx, kVx, Option.some.injEq, exists_eq_left', true_and, and_true, true_implies, false_implies, implies_true, not_true_eq_false, not_false_eq_true, true_or, or_true, false_or, or_false, forall_eq, iteT, iteF, LB_ hB, hn0]
  refine sp_fill (N := 64) (LB_ hB).2.2.1.2.2.2.2.2.2.1 (LB_ hB).2.2.2.2.2.2.2.2.2.1 (by decide) fun I2 hs hd => t3_28 ?_
  simp (disch := omega) only [vpT, nI_leI, nI_ltI, nI_eq, nleT, nleF, nltT, nltF, neqT, neqF, nI_add, pk_mul, subN, divN, nI_clamp, mI1, wrH, wrM1, wrM2, wrowH, wrowM, bI0, bI1, kIi, kVi, kRi, kLi, kIx, kVx, Option.some.injEq, exists_eq_left', true_and, and_true, true_implies, false_implies, implies_true, not_true_eq_false, not_false_eq_true, true_or, or_true, false_or, or_false, forall_eq, iteT, iteF, LB_ hB, hn0]
  refine k I2 (fun a ha => ?_) ⟨?_, fun j hj => hd j hj⟩
  · rw [hs a (by omega)]
    simp (disch := omega) only [vpT, nI_leI, nI_ltI, nI_eq, nleT, nleF, nltT, nltF, neqT, neqF, nI_add, pk_mul, subN, divN, nI_clamp, mI1, wrH, wrM1, wrM2, wrowH, wrowM, bI0, bI1, kIi, kVi, kRi, kLi, kIx, kVx, Option.some.injEq, exists_eq_left', true_and, and_true, true_implies, false_implies, implies_true, not_true_eq_false, not_false_eq_true, true_or, or_true, false_or, or_false, forall_eq, iteT, iteF, LB_ hB, hn0]
  · have e : ∀ j, I2 b j = _ := fun j => congrFun (hs b (by omega)) j
    simp (disch := omega) only [vpT, nI_leI, nI_ltI, nI_eq, nleT, nleF, nltT, nltF, neqT, neqF, nI_add, pk_mul, subN, divN, nI_clamp, mI1, wrH, wrM1, wrM2, wrowH, wrowM, bI0, bI1, kIi, kVi, kRi, kLi, kIx, kVx, Option.some.injEq, exists_eq_left', true_and, and_true, true_implies, false_implies, implies_true, not_true_eq_false, not_false_eq_true, true_or, or_true, false_or, or_false, forall_eq, iteT, iteF, bd, bF, bSo, bRe, bLa, bWe, bHu, bOr, bGa, bSF, bST, bDo, bDS, bDW, LB_ hB, hn0, e]
end BCHG2
