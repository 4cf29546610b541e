/-! The class's boards: questions. -/
/-- by rank -/
def ahd (S : BS) (a c : Nat) : Bool := if bHu S a = bHu S c then (if bRe S a = bRe S c then decide (a < c) else decide (bRe S a < bRe S c)) else decide (bHu S a = nI 1)
def rk (S : BS) (n c : Nat) : Nat := cntB (fun k => ahd S k c) n
/-- THE PLAN is an order of all -/
def PI (S : BS) (n : Nat) : Prop := ∀ i j, i < n → j < n → ordN S i = ordN S j → i = j
section BOARD2
variable {d : Nat} {L : hL} {I : Nat → Nat → Int32} {J : Nat → Nat → Int64} {t : tl} {b n sn dn : Nat} {F : Int32 → hp → Prop} {G : hp → Prop} {X : Nat → hp → Prop}
--facts LB_ hB
theorem sp_isAhead {a c : Nat} (hB : LB L b) (ha : a < 10) (hc : c < 10) (k : F (bI (ahd (bd I b) a c)) (L, I, J, t)) : cal (d + 1) 27 [.ref b, .int (nI a), .int (nI c)] (L, I, J, t) (kI F X) := by
  refine e27 (t27_0 ?_)
  simp (disch := omega) only [vpT, nI_leI, nI_ltI, nI_eq, nleT, nleF, nltT, nltF, neqT, neqF, nI_add, pk_mul, subN, divN, nI_clamp, mI1, wrH, wrM1, wrM2, wrowH, wrowM, bI0, bI1, kIi, kVi, kRi, kLi, kIx, kVx, Option.some.injEq, exists_eq_left', true_and, and_true, true_implies, false_implies, implies_true, not_true_eq_false, not_false_eq_true, true_or, or_true, false_or, or_false, forall_eq, iteT, iteF, LB_ hB]
  refine ⟨fun h1 => ⟨fun h2 => ⟨fun h3 => ?_, fun h3 => ?_⟩, fun h2 => ⟨fun h3 => ?_, fun h3 => ?_⟩⟩, fun h1 => ⟨fun h3 => ?_, fun h3 => ?_⟩⟩
  · rw [show ahd (bd I b) a c = false from (if_pos h1).trans ((if_pos h2).trans (decide_eq_false (by omega)))] at k; exact k
  · rw [show ahd (bd I b) a c = true from (if_pos h1).trans ((if_pos h2).trans (decide_eq_true (by omega)))] at k; exact k
  · rw [show ahd (bd I b) a c = false from (if_pos h1).trans ((if_neg h2).trans (decide_eq_false (Int32.not_lt.mpr h3)))] at k; exact k
  · rw [show ahd (bd I b) a c = true from (if_pos h1).trans ((if_neg h2).trans (decide_eq_true (Int32.not_le.mp h3)))] at k; exact k
  · rw [show ahd (bd I b) a c = false from (if_neg h1).trans (decide_eq_false h3)] at k; exact k
  · rw [show ahd (bd I b) a c = true from (if_neg h1).trans (decide_eq_true h3)] at k; exact k
--facts LB_ hB, hn0
theorem sp_rankOf {c : Nat} (hB : LB L b) (hI : BI (bd I b) n sn dn) (hc : c < n) (k : F (nI (rk (bd I b) n c)) (L, I, J, t)) : cal (d + 2) 26 [.ref b, .int (nI c)] (L, I, J, t) (kI F X) := by
  have hn0 : I b 0 = nI n := hI.1.1
  have hn := hI.1.2
  refine e26 (t26_0 ?_)
  refine lq (n := n) (fun i => [some (.ref b), some (.int (nI c)), some (.int (nI (rk (bd I b) i c))), some (.int (nI i))]) (fun i hi ih => t26_4 ?_) (t26_4 ?_)
  · simp (disch := omega) only [vpT, nI_leI, nI_ltI, nI_eq, nleT, nleF, nltT, nltF, neqT, neqF, nI_add, pk_mul, subN, divN, nI_clamp, mI1, wrH, wrM1, wrM2, wrowH, wrowM, bI0, bI1, kIi, kVi, kRi, kLi, kIx, kVx, Option.some.injEq, exists_eq_left', true_and, and_true, true_implies, false_implies, implies_true, not_true_eq_false, not_false_eq_true, true_or, or_true, false_or, or_false, forall_eq, iteT, iteF, LB_ hB, hn0]
    refine sp_isAhead hB (by omega) (by omega) (t26_18 ?_)
    simp (disch := omega) only [vpT, nI_leI, nI_ltI, nI_eq, nleT, nleF, nltT, nltF, neqT, neqF, nI_add, pk_mul, subN, divN, nI_clamp, mI1, wrH, wrM1, wrM2, wrowH, wrowM, bI0, bI1, kIi, kVi, kRi, kLi, kIx, kVx, Option.some.injEq, exists_eq_left', true_and, and_true, true_implies, false_implies, implies_true, not_true_eq_false, not_false_eq_true, true_or, or_true, false_or, or_false, forall_eq, iteT, iteF, LB_ hB, hn0]
    refine ⟨fun h => ?_, fun h => ?_⟩
    · rw [show rk (bd I b) (i + 1) c = rk (bd I b) i c from cntB_f h] at ih; exact ih
    · rw [show rk (bd I b) (i + 1) c = rk (bd I b) i c + 1 from cntB_t (by simpa using h)] at ih; exact ih
  · simp (disch := omega) only [vpT, nI_leI, nI_ltI, nI_eq, nleT, nleF, nltT, nltF, neqT, neqF, nI_add, pk_mul, subN, divN, nI_clamp, mI1, wrH, wrM1, wrM2, wrowH, wrowM, bI0, bI1, kIi, kVi, kRi, kLi, kIx, kVx, Option.some.injEq, exists_eq_left', true_and, and_true, true_implies, false_implies, implies_true, not_true_eq_false, not_false_eq_true, true_or, or_true, false_or, or_false, forall_eq, iteT, iteF, LB_ hB, hn0]
    exact k
theorem sp_placeOf {c p : Nat} (hB : LB L b) (hI : BI (bd I b) n sn dn) (hP : PI (bd I b) n) (hp : p < n) (hc : ordN (bd I b) p = c) (k : F (nI p) (L, I, J, t)) : cal (d + 1) 41 [.ref b, .int (nI c)] (L, I, J, t) (kI F X) := by
  have hn0 : I b 0 = nI n := hI.1.1
  have hn := hI.1.2
  refine e41 (t41_0 ?_)
  refine lqP (n := n) (fun i => i ≤ p) (fun i => [some (.ref b), some (.int (nI c)), some (.int (nI i))]) (by omega) (fun i hi hip ih => t41_2 ?_) (fun h => by omega)
  have e1 : I (b + 6) i = nI (ordN (bd I b) i) := (bi_or hI hi).1
  have e2 := (bi_or hI hi).2
  have e3 := (bi_or hI hp).2
  simp (disch := omega) only [vpT, nI_leI, nI_ltI, nI_eq, nleT, nleF, nltT, nltF, neqT, neqF, nI_add, pk_mul, subN, divN, nI_clamp, mI1, wrH, wrM1, wrM2, wrowH, wrowM, bI0, bI1, kIi, kVi, kRi, kLi, kIx, kVx, Option.some.injEq, exists_eq_left', true_and, and_true, true_implies, false_implies, implies_true, not_true_eq_false, not_false_eq_true, true_or, or_true, false_or, or_false, forall_eq, iteT, iteF, LB_ hB, hn0, e1]
  refine ⟨fun h => ih ?_, fun h => ?_⟩
  · have : i ≠ p := fun e => h (by rw [e]; exact hc)
    omega
  · rw [show i = p from hP i p hi hp (by omega)]
    exact k
theorem sp_beginsAlike {a1 m : Nat} (hB : LB L b) (ha : L.1 a1 = 20) (hl : L.2.1 a1 = 10) (hm : m ≤ 10) (k : F (bI (allB (fun j => decide (I a1 j = bOr (bd I b) j)) m)) (L, I, J, t)) : cal (d + 1) 52 [.ref b, .ref a1, .int (nI m)] (L, I, J, t) (kI F X) := by
  refine e52 (t52_0 ?_)
  refine lqP (n := m) (fun i => allB (fun j => decide (I a1 j = bOr (bd I b) j)) i = true) (fun i => [some (.ref b), some (.ref a1), some (.int (nI m)), some (.int (nI i))]) rfl (fun i hi hd ih => t52_2 ?_) (fun hd => t52_2 ?_)
  · simp (disch := omega) only [vpT, nI_leI, nI_ltI, nleT, nleF, nI_add, nI_clamp, LB_ hB, ha, hl, Option.some.injEq, exists_eq_left', true_and, and_true, true_implies, false_implies, not_true_eq_false, not_false_eq_true, kIi]
    refine ⟨fun h => ih ?_, fun h => ?_⟩
    · unfold allB; rw [hd]; exact decide_eq_true h
    · rw [allB_f hi (decide_eq_false h)] at k; exact k
  · simp (disch := omega) only [nI_leI, nleT, nleF, true_implies, false_implies, not_true_eq_false, and_true, kIi]
    rw [hd] at k
    exact k
end BOARD2
