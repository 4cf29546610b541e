/-! The class's boards: a craft goes, is done; places change. -/
theorem remN {a b : Nat} (h : a < 2 ^ 31) (hb : 0 < b) (hb2 : b < 2 ^ 31) : nI a - nI a / nI b * nI b = nI (a % b) := by
  rw [divN hb h hb2, pk_mul, subN (Nat.div_mul_le_self a b)]
  congr 1
  have := Nat.div_add_mod a b
  rw [Nat.mul_comm] at this
  omega
/-- crooked rows of three sorts -/
def crk (S : BS) (r : Nat) : Bool := !decide (bGa S (r / 64 * 8 + r % 8) ≤ bGa S (r / 64 * 8 + r / 8 % 8) + bGa S (r / 8 % 8 * 8 + r % 8))
/-- the first one from r on -/
def fst1 (p : Nat → Bool) : Nat → Nat → Int32
  | 0, _ => -1
  | m + 1, r => if p r then nI r else fst1 p m (r + 1)
/-- the order with p and p + 1 changed -/
def swp (o : Nat → Nat) (p k : Nat) : Nat := if k = p then o (p + 1) else if k = p + 1 then o p else o k
section BCHG3
variable {d : Nat} {L : hL} {I : Nat → Nat → Int32} {J : Nat → Nat → Int64} {t : tl} {b n sn dn : Nat} {F : Int32 → hp → Prop} {G : hp → Prop} {X : Nat → hp → Prop}
--facts LB_ hB
theorem sp_isCrooked {r : Nat} (hB : LB L b) (hr : r < 512) (k : F (bI (crk (bd I b) r)) (L, I, J, t)) : cal (d + 2) 85 [.ref b, .int (nI r)] (L, I, J, t) (kI F X) := by
  refine e85 (t85_0 ?_)
  rw [remN (a := r) (b := 8) (by omega) (by omega) (by omega), divN (a := r) (b := 8) (by omega) (by omega) (by omega), divN (a := r) (b := 64) (by omega) (by omega) (by omega), remN (a := r / 8) (b := 8) (by omega) (by omega) (by omega)]
  simp (disch := omega) only [vpT, nI_leI, nI_ltI, nI_eq, nleT, nleF, nltT, nltF, neqT, neqF, nI_add, pk_mul, subN, divN, nI_clamp, mI1, wrH, wrM1, wrM2, wrowH, wrowM, bI0, bI1, kIi, kVi, kRi, kLi, kIx, kVx, Option.some.injEq, exists_eq_left', true_and, and_true, true_implies, false_implies, implies_true, not_true_eq_false, not_false_eq_true, true_or, or_true, false_or, or_false, forall_eq, iteT, iteF, LB_ hB]
  refine sp_gapOf hB (by omega) (by omega) (t85_26 ?_)
  simp (disch := omega) only [vpT, nI_leI, nI_ltI, nI_eq, nleT, nleF, nltT, nltF, neqT, neqF, nI_add, pk_mul, subN, divN, nI_clamp, mI1, wrH, wrM1, wrM2, wrowH, wrowM, bI0, bI1, kIi, kVi, kRi, kLi, kIx, kVx, Option.some.injEq, exists_eq_left', true_and, and_true, true_implies, false_implies, implies_true, not_true_eq_false, not_false_eq_true, true_or, or_true, false_or, or_false, forall_eq, iteT, iteF, LB_ hB]
  refine sp_gapOf hB (by omega) (by omega) (t85_32 ?_)
  simp (disch := omega) only [vpT, nI_leI, nI_ltI, nI_eq, nleT, nleF, nltT, nltF, neqT, neqF, nI_add, pk_mul, subN, divN, nI_clamp, mI1, wrH, wrM1, wrM2, wrowH, wrowM, bI0, bI1, kIi, kVi, kRi, kLi, kIx, kVx, Option.some.injEq, exists_eq_left', true_and, and_true, true_implies, false_implies, implies_true, not_true_eq_false, not_false_eq_true, true_or, or_true, false_or, or_false, forall_eq, iteT, iteF, LB_ hB]
  refine sp_gapOf hB (by omega) (by omega) (t85_39 ?_)
  simp (disch := omega) only [vpT, nI_leI, nI_ltI, nI_eq, nleT, nleF, nltT, nltF, neqT, neqF, nI_add, pk_mul, subN, divN, nI_clamp, mI1, wrH, wrM1, wrM2, wrowH, wrowM, bI0, bI1, kIi, kVi, kRi, kLi, kIx, kVx, Option.some.injEq, exists_eq_left', true_and, and_true, true_implies, false_implies, implies_true, not_true_eq_false, not_false_eq_true, true_or, or_true, false_or, or_false, forall_eq, iteT, iteF, LB_ hB]
  unfold crk at k
  refine ⟨fun h => ?_, fun h => ?_⟩
  · rw [decide_eq_true h] at k; exact k
  · rw [decide_eq_false h] at k; exact k
theorem sp_crookedRows (hB : LB L b) (k : F (nI (cntB (crk (bd I b)) 512)) (L, I, J, t)) : cal (d + 3) 84 [.ref b] (L, I, J, t) (kI F X) := by
  refine e84 (t84_0 ?_)
  refine lq (n := 512) (fun i => [some (.ref b), some (.int (nI (cntB (crk (bd I b)) i))), some (.int (nI i))]) (fun i hi ih => t84_4 ?_) (t84_4 ?_)
  · simp (disch := omega) only [vpT, nI_leI, nI_ltI, nI_eq, nleT, nleF, nltT, nltF, neqT, neqF, nI_add, pk_mul, subN, divN, nI_clamp, mI1, wrH, wrM1, wrM2, wrowH, wrowM, bI0, bI1, kIi, kVi, kRi, kLi, kIx, kVx, Option.some.injEq, exists_eq_left', true_and, and_true, true_implies, false_implies, implies_true, not_true_eq_false, not_false_eq_true, true_or, or_true, false_or, or_false, forall_eq, iteT, iteF, LB_ hB]
    refine sp_isCrooked hB (by omega) (t84_16 ?_)
    simp (disch := omega) only [vpT, nI_leI, nI_ltI, nI_eq, nleT, nleF, nltT, nltF, neqT, neqF, nI_add, pk_mul, subN, divN, nI_clamp, mI1, wrH, wrM1, wrM2, wrowH, wrowM, bI0, bI1, kIi, kVi, kRi, kLi, kIx, kVx, Option.some.injEq, exists_eq_left', true_and, and_true, true_implies, false_implies, implies_true, not_true_eq_false, not_false_eq_true, true_or, or_true, false_or, or_false, forall_eq, iteT, iteF, LB_ hB]
    refine ⟨fun h => ?_, fun h => ?_⟩
    · rw [cntB_f h] at ih; exact ih
    · rw [cntB_t (by simpa using h)] at ih; exact ih
  · simp (disch := omega) only [vpT, nI_leI, nI_ltI, nI_eq, nleT, nleF, nltT, nltF, neqT, neqF, nI_add, pk_mul, subN, divN, nI_clamp, mI1, wrH, wrM1, wrM2, wrowH, wrowM, bI0, bI1, kIi, kVi, kRi, kLi, kIx, kVx, Option.some.injEq, exists_eq_left', true_and, and_true, true_implies, false_implies, implies_true, not_true_eq_false, not_false_eq_true, true_or, or_true, false_or, or_false, forall_eq, iteT, iteF, LB_ hB]
    exact k
theorem sp_firstCrooked (hB : LB L b) (k : F (fst1 (crk (bd I b)) 512 0) (L, I, J, t)) : cal (d + 3) 86 [.ref b] (L, I, J, t) (kI F X) := by
  refine e86 (t86_0 ?_)
  refine lqP (n := 512) (fun i => fst1 (crk (bd I b)) 512 0 = fst1 (crk (bd I b)) (512 - i) i) (fun i => [some (.ref b), some (.int (nI i))]) rfl (fun i hi hd ih => t86_2 ?_) (fun hd => t86_2 ?_)
  · simp (disch := omega) only [vpT, nI_leI, nI_ltI, nI_eq, nleT, nleF, nltT, nltF, neqT, neqF, nI_add, pk_mul, subN, divN, nI_clamp, mI1, wrH, wrM1, wrM2, wrowH, wrowM, bI0, bI1, kIi, kVi, kRi, kLi, kIx, kVx, Option.some.injEq, exists_eq_left', true_and, and_true, true_implies, false_implies, implies_true, not_true_eq_false, not_false_eq_true, true_or, or_true, false_or, or_false, forall_eq, iteT, iteF, LB_ hB]
    refine sp_isCrooked hB (by omega) (t86_14 ?_)
    simp (disch := omega) only [vpT, nI_leI, nI_ltI, nI_eq, nleT, nleF, nltT, nltF, neqT, neqF, nI_add, pk_mul, subN, divN, nI_clamp, mI1, wrH, wrM1, wrM2, wrowH, wrowM, bI0, bI1, kIi, kVi, kRi, kLi, kIx, kVx, Option.some.injEq, exists_eq_left', true_and, and_true, true_implies, false_implies, implies_true, not_true_eq_false, not_false_eq_true, true_or, or_true, false_or, or_false, forall_eq, iteT, iteF, LB_ hB]
    have e : fst1 (crk (bd I b)) (512 - i) i = if crk (bd I b) i then nI i else fst1 (crk (bd I b)) (512 - (i + 1)) (i + 1) := by
      rw [show 512 - i = 512 - (i + 1) + 1 by omega]; rfl
    refine ⟨fun h => ih ?_, fun h => ?_⟩
    · rw [hd, e, h]; rfl
    · rw [hd, e, if_pos (by simpa using h)] at k; exact k
  · simp (disch := omega) only [vpT, nI_leI, nI_ltI, nI_eq, nleT, nleF, nltT, nltF, neqT, neqF, nI_add, pk_mul, subN, divN, nI_clamp, mI1, wrH, wrM1, wrM2, wrowH, wrowM, bI0, bI1, kIi, kVi, kRi, kLi, kIx, kVx, Option.some.injEq, exists_eq_left', true_and, and_true, true_implies, false_implies, implies_true, not_true_eq_false, not_false_eq_true, true_or, or_true, false_or, or_false, forall_eq, iteT, iteF, LB_ hB]
    rw [hd] at k
    exact k
--facts LB_ hB, hn0
theorem sp_swapWithNext {p : Nat} (hB : LB L b) (hn0 : I b 0 = nI n) (hn : n ≤ 10) (hp : p + 1 < n) (k : G (L, wr (wr I (b + 6) p (I (b + 6) (p + 1))) (b + 6) (p + 1) (I (b + 6) p), J, t)) : cal (d + 1) 42 [.ref b, .int (nI p)] (L, I, J, t) (kV G X) := by
  refine e42 (t42_0 ?_)
  simp (disch := omega) only [vpT, nI_leI, nI_ltI, nI_eq, nleT, nleF, nltT, nltF, neqT, neqF, nI_add, pk_mul, subN, divN, nI_clamp, mI1, wrH, wrM1, wrM2, wrowH, wrowM, bI0, bI1, kIi, kVi, kRi, kLi, kIx, kVx, Option.some.injEq, exists_eq_left', true_and, and_true, true_implies, false_implies, implies_true, not_true_eq_false, not_false_eq_true, true_or, or_true, false_or, or_false, forall_eq, iteT, iteF, LB_ hB, hn0]
  exact k
theorem sp_removeCraft {c p : Nat} (hB : LB L b) (hI : BI (bd I b) n sn dn) (hP : PI (bd I b) n) (hp : p < n) (hc : ordN (bd I b) p = c) (k : ∀ I2, same I I2 (fun a => b ≤ a ∧ a ≤ b + 12) → Rmv (bd I b) (bd I2 b) n c p → G (L, I2, J, t)) : cal (d + 2) 105 [.ref b, .int (nI c)] (L, I, J, t) (kV G X) := by
  have hn0 : I b 0 = nI n := hI.1.1
  have hn := hI.1.2
  have hcn : c < n := by rw [← hc]; exact (bi_or hI hp).2
  refine e105 (t105_0 ?_)
  simp (disch := omega) only [vpT, nI_leI, nI_ltI, nI_eq, nleT, nleF, nltT, nltF, neqT, neqF, nI_add, pk_mul, subN, divN, nI_clamp, mI1, wrH, wrM1, wrM2, wrowH, wrowM, bI0, bI1, kIi, kVi, kRi, kLi, kIx, kVx, Option.some.injEq, exists_eq_left', true_and, and_true, true_implies, false_implies, implies_true, not_true_eq_false, not_false_eq_true, true_or, or_true, false_or, or_false, forall_eq, iteT, iteF, LB_ hB, hn0]
  refine sp_placeOf hB hI hP hp hc (t105_9 ?_)
  simp (disch := omega) only [vpT, nI_leI, nI_ltI, nI_eq, nleT, nleF, nltT, nltF, neqT, neqF, nI_add, pk_mul, subN, divN, nI_clamp, mI1, wrH, wrM1, wrM2, wrowH, wrowM, bI0, bI1, kIi, kVi, kRi, kLi, kIx, kVx, Option.some.injEq, exists_eq_left', true_and, and_true, true_implies, false_implies, implies_true, not_true_eq_false, not_false_eq_true, true_or, or_true, false_or, or_false, forall_eq, iteT, iteF, LB_ hB, hn0]
  refine sp_takeOut (N := 10) (LB_ hB).2.2.1.2.2.2.2.2.1 (LB_ hB).2.2.2.2.2.2.2.2.1 hp (by omega) (by decide) (t105_16 ?_)
  simp (disch := omega) only [vpT, nI_leI, nI_ltI, nI_eq, nleT, nleF, nltT, nltF, neqT, neqF, nI_add, pk_mul, subN, divN, nI_clamp, mI1, wrH, wrM1, wrM2, wrowH, wrowM, bI0, bI1, kIi, kVi, kRi, kLi, kIx, kVx, Option.some.injEq, exists_eq_left', true_and, and_true, true_implies, false_implies, implies_true, not_true_eq_false, not_false_eq_true, true_or, or_true, false_or, or_false, forall_eq, iteT, iteF, LB_ hB, hn0]
  refine sp_takeOut (N := 10) (LB_ hB).2.2.1.1 (LB_ hB).2.2.2.1 hcn (by omega) (by decide) (t105_28 ?_)
  simp (disch := omega) only [vpT, nI_leI, nI_ltI, nI_eq, nleT, nleF, nltT, nltF, neqT, neqF, nI_add, pk_mul, subN, divN, nI_clamp, mI1, wrH, wrM1, wrM2, wrowH, wrowM, bI0, bI1, kIi, kVi, kRi, kLi, kIx, kVx, Option.some.injEq, exists_eq_left', true_and, and_true, true_implies, false_implies, implies_true, not_true_eq_false, not_false_eq_true, true_or, or_true, false_or, or_false, forall_eq, iteT, iteF, LB_ hB, hn0]
  refine sp_takeOut (N := 10) (LB_ hB).2.2.1.2.1 (LB_ hB).2.2.2.2.1 hcn (by omega) (by decide) (t105_40 ?_)
  simp (disch := omega) only [vpT, nI_leI, nI_ltI, nI_eq, nleT, nleF, nltT, nltF, neqT, neqF, nI_add, pk_mul, subN, divN, nI_clamp, mI1, wrH, wrM1, wrM2, wrowH, wrowM, bI0, bI1, kIi, kVi, kRi, kLi, kIx, kVx, Option.some.injEq, exists_eq_left', true_and, and_true, true_implies, false_implies, implies_true, not_true_eq_false, not_false_eq_true, true_or, or_true, false_or, or_false, forall_eq, iteT, iteF, LB_ hB, hn0]
  refine sp_takeOut (N := 10) (LB_ hB).2.2.1.2.2.1 (LB_ hB).2.2.2.2.2.1 hcn (by omega) (by decide) (t105_52 ?_)
  simp (disch := omega) only [vpT, nI_leI, nI_ltI, nI_eq, nleT, nleF, nltT, nltF, neqT, neqF, nI_add, pk_mul, subN, divN, nI_clamp, mI1, wrH, wrM1, wrM2, wrowH, wrowM, bI0, bI1, kIi, kVi, kRi, kLi, kIx, kVx, Option.some.injEq, exists_eq_left', true_and, and_true, true_implies, false_implies, implies_true, not_true_eq_false, not_false_eq_true, true_or, or_true, false_or, or_false, forall_eq, iteT, iteF, LB_ hB, hn0]
  refine sp_takeOut (N := 10) (LB_ hB).2.2.1.2.2.2.1 (LB_ hB).2.2.2.2.2.2.1 hcn (by omega) (by decide) (t105_64 ?_)
  simp (disch := omega) only [vpT, nI_leI, nI_ltI, nI_eq, nleT, nleF, nltT, nltF, neqT, neqF, nI_add, pk_mul, subN, divN, nI_clamp, mI1, wrH, wrM1, wrM2, wrowH, wrowM, bI0, bI1, kIi, kVi, kRi, kLi, kIx, kVx, Option.some.injEq, exists_eq_left', true_and, and_true, true_implies, false_implies, implies_true, not_true_eq_false, not_false_eq_true, true_or, or_true, false_or, or_false, forall_eq, iteT, iteF, LB_ hB, hn0]
  refine sp_takeOut (N := 10) (LB_ hB).2.2.1.2.2.2.2.1 (LB_ hB).2.2.2.2.2.2.2.1 hcn (by omega) (by decide) (t105_76 ?_)
  simp (disch := omega) only [vpT, nI_leI, nI_ltI, nI_eq, nleT, nleF, nltT, nltF, neqT, neqF, nI_add, pk_mul, subN, divN, nI_clamp, mI1, wrH, wrM1, wrM2, wrowH, wrowM, bI0, bI1, kIi, kVi, kRi, kLi, kIx, kVx, Option.some.injEq, exists_eq_left', true_and, and_true, true_implies, false_implies, implies_true, not_true_eq_false, not_false_eq_true, true_or, or_true, false_or, or_false, forall_eq, iteT, iteF, LB_ hB, hn0]
  generalize hI1 : wr (wrow (wrow (wrow (wrow (wrow (wrow I (b + 6) _) _ _) _ _) _ _) _ _) _ _) b 0 _ = I1
  have ev : ∀ j, j < n - 1 → ordN (bd I b) (sk p j) < n ∧ (j ≠ p → True) ∧ I1 (b + 6) j = nI (ordN (bd I b) (sk p j)) := fun j hj => by
    have h1 : sk p j < n := by unfold sk; split <;> omega
    refine ⟨(bi_or hI h1).2, fun _ => trivial, ?_⟩
    rw [← hI1]
    simp (disch := omega) only [vpT, nI_leI, nI_ltI, nI_eq, nleT, nleF, nltT, nltF, neqT, neqF, nI_add, pk_mul, subN, divN, nI_clamp, mI1, wrH, wrM1, wrM2, wrowH, wrowM, bI0, bI1, kIi, kVi, kRi, kLi, kIx, kVx, Option.some.injEq, exists_eq_left', true_and, and_true, true_implies, false_implies, implies_true, not_true_eq_false, not_false_eq_true, true_or, or_true, false_or, or_false, forall_eq, iteT, iteF, LB_ hB, hn0, rem1_sk]
    exact (bi_or hI h1).1
  have hb0 : I1 b 0 = nI (n - 1) := by rw [← hI1]; simp (disch := omega) only [vpT, nI_leI, nI_ltI, nI_eq, nleT, nleF, nltT, nltF, neqT, neqF, nI_add, pk_mul, subN, divN, nI_clamp, mI1, wrH, wrM1, wrM2, wrowH, wrowM, bI0, bI1, kIi, kVi, kRi, kLi, kIx, kVx, Option.some.injEq, exists_eq_left', true_and, and_true, true_implies, false_implies, implies_true, not_true_eq_false, not_false_eq_true, true_or, or_true, false_or, or_false, forall_eq, iteT, iteF, LB_ hB, hn0]
  refine lg (n := n - 1) (fun i l h => ∃ I2, l = [some (.ref b), some (.int (nI c)), some (.int (nI i))] ∧ h = (L, I2, J, t) ∧ same I1 I2 (fun q => q = b + 6) ∧ (∀ j, j < i → I2 (b + 6) j = nI (dn1 c (ordN (bd I b) (sk p j)))) ∧ ∀ j, i ≤ j → j < n - 1 → I2 (b + 6) j = nI (ordN (bd I b) (sk p j))) ?_ ?_ (Nat.zero_le _) _ _ ⟨I1, rfl, rfl, same.rf, fun j hj => by omega, fun j _ hj => (ev j hj).2.2⟩
  · rintro i hi ih _ _ ⟨I2, rfl, rfl, hs, h1, h2⟩
    refine t105_88 ?_
    have e0 : I2 b 0 = nI (n - 1) := by rw [hs b (by omega)]; exact hb0
    have e1 := h2 i (Nat.le_refl _) hi
    have e2 := (ev i hi).1
    simp (disch := omega) only [vpT, nI_leI, nleT, nleF, nI_add, nI_clamp, subN, LB_ hB, e0, e1, Option.some.injEq, exists_eq_left', true_and, and_true, true_implies, false_implies, not_true_eq_false, not_false_eq_true]
    refine ⟨fun h => ih _ _ ⟨I2, rfl, rfl, hs, fun j hj => ?_, fun j hj => h2 j (by omega)⟩, fun h => ih _ _ ⟨_, rfl, rfl, fun q hq => ?_, fun j hj => ?_, fun j hj hj2 => ?_⟩⟩
    · by_cases e : j = i
      · rw [e, e1]; unfold dn1; rw [if_neg (by omega)]
      · exact h1 j (by omega)
    · rw [wrM1 hq]; exact hs q hq
    · by_cases e : j = i
      · rw [wrH rfl e, e, subN (by omega)]; unfold dn1; rw [if_pos (by omega)]
      · rw [wrM2 e]; exact h1 j (by omega)
    · rw [wrM2 (by omega)]; exact h2 j (by omega) hj2
  · rintro _ _ ⟨I2, rfl, rfl, hs, h1, h2⟩
    refine t105_88 ?_
    have e0 : I2 b 0 = nI (n - 1) := by rw [hs b (by omega)]; exact hb0
    simp (disch := omega) only [nI_leI, nleT, nleF, LB_ hB, e0, true_and, and_true, true_implies, false_implies, not_true_eq_false, kVi]
    have row : ∀ a, a ≠ b + 6 → I2 a = I1 a := fun a ha => hs a ha
    refine k I2 (fun a ha => ?_) ⟨⟨e0, fun j hj => ?_⟩, fun j hj => ?_, ?_⟩
    · rw [row a (by omega), ← hI1]
      simp (disch := omega) only [vpT, nI_leI, nI_ltI, nI_eq, nleT, nleF, nltT, nltF, neqT, neqF, nI_add, pk_mul, subN, divN, nI_clamp, mI1, wrH, wrM1, wrM2, wrowH, wrowM, bI0, bI1, kIi, kVi, kRi, kLi, kIx, kVx, Option.some.injEq, exists_eq_left', true_and, and_true, true_implies, false_implies, implies_true, not_true_eq_false, not_false_eq_true, true_or, or_true, false_or, or_false, forall_eq, iteT, iteF, LB_ hB, hn0]
    · show I2 b j = I b j
      rw [row b (by omega), ← hI1]
      simp (disch := omega) only [vpT, nI_leI, nI_ltI, nI_eq, nleT, nleF, nltT, nltF, neqT, neqF, nI_add, pk_mul, subN, divN, nI_clamp, mI1, wrH, wrM1, wrM2, wrowH, wrowM, bI0, bI1, kIi, kVi, kRi, kLi, kIx, kVx, Option.some.injEq, exists_eq_left', true_and, and_true, true_implies, false_implies, implies_true, not_true_eq_false, not_false_eq_true, true_or, or_true, false_or, or_false, forall_eq, iteT, iteF, LB_ hB, hn0]
    · refine ⟨?_, ?_, ?_, ?_, ?_, h1 j hj⟩
      · show I2 (b + 1) j = I (b + 1) _
        rw [row _ (by omega), ← hI1]
        simp (disch := omega) only [vpT, nI_leI, nI_ltI, nI_eq, nleT, nleF, nltT, nltF, neqT, neqF, nI_add, pk_mul, subN, divN, nI_clamp, mI1, wrH, wrM1, wrM2, wrowH, wrowM, bI0, bI1, kIi, kVi, kRi, kLi, kIx, kVx, Option.some.injEq, exists_eq_left', true_and, and_true, true_implies, false_implies, implies_true, not_true_eq_false, not_false_eq_true, true_or, or_true, false_or, or_false, forall_eq, iteT, iteF, LB_ hB, hn0, rem1_sk]
      · show I2 (b + 2) j = I (b + 2) _
        rw [row _ (by omega), ← hI1]
        simp (disch := omega) only [vpT, nI_leI, nI_ltI, nI_eq, nleT, nleF, nltT, nltF, neqT, neqF, nI_add, pk_mul, subN, divN, nI_clamp, mI1, wrH, wrM1, wrM2, wrowH, wrowM, bI0, bI1, kIi, kVi, kRi, kLi, kIx, kVx, Option.some.injEq, exists_eq_left', true_and, and_true, true_implies, false_implies, implies_true, not_true_eq_false, not_false_eq_true, true_or, or_true, false_or, or_false, forall_eq, iteT, iteF, LB_ hB, hn0, rem1_sk]
      · show I2 (b + 3) j = I (b + 3) _
        rw [row _ (by omega), ← hI1]
        simp (disch := omega) only [vpT, nI_leI, nI_ltI, nI_eq, nleT, nleF, nltT, nltF, neqT, neqF, nI_add, pk_mul, subN, divN, nI_clamp, mI1, wrH, wrM1, wrM2, wrowH, wrowM, bI0, bI1, kIi, kVi, kRi, kLi, kIx, kVx, Option.some.injEq, exists_eq_left', true_and, and_true, true_implies, false_implies, implies_true, not_true_eq_false, not_false_eq_true, true_or, or_true, false_or, or_false, forall_eq, iteT, iteF, LB_ hB, hn0, rem1_sk]
      · show I2 (b + 4) j = I (b + 4) _
        rw [row _ (by omega), ← hI1]
        simp (disch := omega) only [vpT, nI_leI, nI_ltI, nI_eq, nleT, nleF, nltT, nltF, neqT, neqF, nI_add, pk_mul, subN, divN, nI_clamp, mI1, wrH, wrM1, wrM2, wrowH, wrowM, bI0, bI1, kIi, kVi, kRi, kLi, kIx, kVx, Option.some.injEq, exists_eq_left', true_and, and_true, true_implies, false_implies, implies_true, not_true_eq_false, not_false_eq_true, true_or, or_true, false_or, or_false, forall_eq, iteT, iteF, LB_ hB, hn0, rem1_sk]
      · show I2 (b + 5) j = I (b + 5) _
        rw [row _ (by omega), ← hI1]
        simp (disch := omega) only [vpT, nI_leI, nI_ltI, nI_eq, nleT, nleF, nltT, nltF, neqT, neqF, nI_add, pk_mul, subN, divN, nI_clamp, mI1, wrH, wrM1, wrM2, wrowH, wrowM, bI0, bI1, kIi, kVi, kRi, kLi, kIx, kVx, Option.some.injEq, exists_eq_left', true_and, and_true, true_implies, false_implies, implies_true, not_true_eq_false, not_false_eq_true, true_or, or_true, false_or, or_false, forall_eq, iteT, iteF, LB_ hB, hn0, rem1_sk]
    · simp (disch := omega) only [vpT, nI_leI, nI_ltI, nI_eq, nleT, nleF, nltT, nltF, neqT, neqF, nI_add, pk_mul, subN, divN, nI_clamp, mI1, wrH, wrM1, wrM2, wrowH, wrowM, bI0, bI1, kIi, kVi, kRi, kLi, kIx, kVx, Option.some.injEq, exists_eq_left', true_and, and_true, true_implies, false_implies, implies_true, not_true_eq_false, not_false_eq_true, true_or, or_true, false_or, or_false, forall_eq, iteT, iteF, bd, bF, bSo, bRe, bLa, bWe, bHu, bOr, bGa, bSF, bST, bDo, bDS, bDW, LB_ hB, hn0, row, ← hI1]
end BCHG3
