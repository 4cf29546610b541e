/-! The model: plans, costs, ranks. -/
/-- an order lies there, with its slots -/
def ML (I : Nat → Nat → Int32) (m : Nat) (S : BS) (o : Nat → Nat) (n : Nat) : Prop := ROW (I (m + 6)) o n ∧ ∀ j, j < n → I (m + 7) j = slt S o j
abbrev ms (m : Nat) : Nat → Prop := fun a => a = m + 6 ∨ a = m + 7
theorem RelHU {r : rw1} {S : BS} {n sn dn : Nat} (h : Rel r S n sn dn) : HU S n := by
  obtain ⟨w, hw, -, hk⟩ := h.2.2.2.2.2
  intro k hkn
  rw [hk k hkn]
  have : w / 2 ^ k % 2 = 0 ∨ w / 2 ^ k % 2 = 1 := by omega
  rcases this with q | q
  · exact Or.inl (by rw [q])
  · exact Or.inr (by rw [q])
section MODEL1
variable {d : Nat} {L : hL} {I : Nat → Nat → Int32} {J : Nat → Nat → Int64} {t : tl} {m n sn dn T : Nat} {S : BS} {o : Nat → Nat} {F : Int32 → hp → Prop} {G : hp → Prop} {X : Nat → hp → Prop}
theorem mp_isIn {h : hp} {x lo hi : Int64} (k : F (bI (decide (lo.toInt ≤ x.toInt ∧ x.toInt ≤ hi.toInt))) h) : cal (d + 1) 175 [.long x, .long lo, .long hi] h (kI F X) := by
  refine e175 (t175_0 ?_)
  have c1 : (lg_cmp x lo < nI 0) = ¬ (lo.toInt ≤ x.toInt) := propext ⟨fun q w => Int32.not_lt.mpr ((lg_cmp_ge x lo).mpr (Int64.le_iff_toInt_le.mpr w)) q, fun q => Int32.not_le.mp fun w => q (Int64.le_iff_toInt_le.mp ((lg_cmp_ge x lo).mp w))⟩
  have c2 : (nI 0 < lg_cmp x hi) = ¬ (x.toInt ≤ hi.toInt) := propext ⟨fun q w => Int32.not_lt.mpr ((lg_cmp_le x hi).mpr (Int64.le_iff_toInt_le.mpr w)) q, fun q => Int32.not_le.mp fun w => q (Int64.le_iff_toInt_le.mp ((lg_cmp_le x hi).mp w))⟩
  rw [c1, c2]
  refine ⟨fun q => ?_, fun q => ⟨fun w => ?_, fun w => ?_⟩⟩
  · rw [decide_eq_false (fun z => q z.1)] at k; exact k
  · rw [decide_eq_false (fun z => w z.2)] at k; exact k
  · rw [decide_eq_true ⟨Classical.not_not.mp q, Classical.not_not.mp w⟩] at k; exact k
--facts LM_ hM
theorem mp_laysPlan (hM : LM L m) (hR : Rel (I (m + 1)) S n sn dn) (hI : BI S n sn dn) (hol : ∀ j, j < n → bOr S j = nI (ordN S j) ∧ ordN S j < n) (k : ∀ I2, same I I2 (ms m) → ML I2 m S (ordN S) n → G (L, I2, J, t)) : cal (d + 4) 196 [.ref m] (L, I, J, t) (kV G X) := by
  have hn := hI.1.2
  refine e196 (t196_0 ?_)
  refine lg (n := n) (fun i l h => ∃ I2, l = [some (.ref m), some (.int (nI i))] ∧ h = (L, I2, J, t) ∧ same I I2 (fun a => a = m + 6) ∧ ∀ j, j < i → I2 (m + 6) j = nI (ordN S j)) ?_ ?_ (Nat.zero_le _) _ _ ⟨I, rfl, rfl, same.rf, fun j hj => by omega⟩
  · rintro i hi ih _ _ ⟨I2, rfl, rfl, hs, hd⟩
    have e1 : I2 (m + 1) = I (m + 1) := hs _ (by omega)
    have e2 : I (m + 1) (46 + i) = nI (ordN S i) := (hR.2.1 i hi).2.2.2.2.trans (hol i hi).1
    refine t196_2 ?_
    simp (disch := omega) only [vpT, nI_leI, nI_ltI, nI_eq, nleT, nleF, nltT, nltF, neqT, neqF, nI_add, pk_mul, subN, divN, nI_clamp, mI1, wrH, wrM1, wrM2, wrowH, wrowM, bI0, bI1, kIi, kVi, kRi, kLi, kIx, kVx, Option.some.injEq, exists_eq_left', true_and, and_true, true_implies, false_implies, implies_true, not_true_eq_false, not_false_eq_true, true_or, or_true, false_or, or_false, forall_eq, iteT, iteF, LM_ hM, e1, hR.1.1, e2]
    refine ih _ _ ⟨_, rfl, rfl, fun a ha => ?_, fun j hj => ?_⟩
    · rw [wrM1 ha]; exact hs a ha
    · by_cases e : j = i
      · rw [wrH rfl e, e]
      · rw [wrM2 e]; exact hd j (by omega)
  · rintro _ _ ⟨I2, rfl, rfl, hs, hd⟩
    have e1 : I2 (m + 1) = I (m + 1) := hs _ (by omega)
    refine t196_2 ?_
    simp (disch := omega) only [vpT, nI_leI, nI_ltI, nI_eq, nleT, nleF, nltT, nltF, neqT, neqF, nI_add, pk_mul, subN, divN, nI_clamp, mI1, wrH, wrM1, wrM2, wrowH, wrowM, bI0, bI1, kIi, kVi, kRi, kLi, kIx, kVx, Option.some.injEq, exists_eq_left', true_and, and_true, true_implies, false_implies, implies_true, not_true_eq_false, not_false_eq_true, true_or, or_true, false_or, or_false, forall_eq, iteT, iteF, LM_ hM, e1, hR.1.1]
    refine mp_laysSlots (o := ordN S) hM (by rw [e1]; exact hR) hI (fun j hj => ⟨hd j hj, (hol j hj).2⟩) fun I3 hs3 hd3 => t196_37 ?_
    simp (disch := omega) only [vpT, nI_leI, nI_ltI, nI_eq, nleT, nleF, nltT, nltF, neqT, neqF, nI_add, pk_mul, subN, divN, nI_clamp, mI1, wrH, wrM1, wrM2, wrowH, wrowM, bI0, bI1, kIi, kVi, kRi, kLi, kIx, kVx, Option.some.injEq, exists_eq_left', true_and, and_true, true_implies, false_implies, implies_true, not_true_eq_false, not_false_eq_true, true_or, or_true, false_or, or_false, forall_eq, iteT, iteF, LM_ hM]
    refine k I3 ((hs.up fun a h => Or.inl h).tr (hs3.up fun a h => Or.inr h)) ⟨fun j hj => ?_, hd3⟩
    rw [hs3 _ (by omega)]
    exact hd j hj
theorem mp_waitAt {p : Nat} (hM : LM L m) (hR : Rel (I (m + 1)) S n sn dn) (hI : BI S n sn dn) (ho : ∀ j, j < n → o j < n) (hL : ML I m S o n) (hp : p < n) (k : F (slt S o p - bRe S (o p)) (L, I, J, t)) : cal (d + 2) 209 [.ref m, .int (nI p)] (L, I, J, t) (kI F X) := by
  have hn := hI.1.2
  have := ho p hp
  refine e209 (t209_0 ?_)
  simp (disch := omega) only [vpT, nI_leI, nI_ltI, nI_eq, nleT, nleF, nltT, nltF, neqT, neqF, nI_add, pk_mul, subN, divN, nI_clamp, mI1, wrH, wrM1, wrM2, wrowH, wrowM, bI0, bI1, kIi, kVi, kRi, kLi, kIx, kVx, Option.some.injEq, exists_eq_left', true_and, and_true, true_implies, false_implies, implies_true, not_true_eq_false, not_false_eq_true, true_or, or_true, false_or, or_false, forall_eq, iteT, iteF, LM_ hM, hL.1 p hp, hL.2 p hp]
  refine mp_ofCraft (w := 1) hM (by omega) (by decide) (t209_17 ?_)
  rw [(hR.2.1 _ (ho p hp)).2.1]
  exact k
theorem cw_m {y v s : Int32} {c : Nat} : cw S y v c s = if y = nI 0 then v + (s - bRe S c) * bWe S c else mx v (if y = nI 1 then s else s - bRe S c) := by
  show (if y = 0 then _ else mx2 (if y = 1 then s else _) v) = _
  rw [mx_mx2, mx2_comm]
  rfl
theorem mp_costOf {y : Int32} (hM : LM L m) (hR : Rel (I (m + 1)) S n sn dn) (hI : BI S n sn dn) (ho : ∀ j, j < n → o j < n) (hL : ML I m S o n) (k : F (cst S o y n) (L, I, J, t)) : cal (d + 3) 208 [.ref m, .int y] (L, I, J, t) (kI F X) := by
  have hn := hI.1.2
  refine e208 (t208_0 ?_)
  refine lg (n := n) (fun i l h => ∃ l4, l = [some (.ref m), some (.int y), some (.int (cst S o y i)), some (.int (nI i)), l4] ∧ h = (L, I, J, t)) ?_ ?_ (Nat.zero_le _) _ _ ⟨_, rfl, rfl⟩
  · rintro i hi ih _ _ ⟨l4, rfl, rfl⟩
    have hoi := ho i hi
    refine t208_4 ?_
    simp (disch := omega) only [vpT, nI_leI, nI_ltI, nI_eq, nleT, nleF, nltT, nltF, neqT, neqF, nI_add, pk_mul, subN, divN, nI_clamp, mI1, wrH, wrM1, wrM2, wrowH, wrowM, bI0, bI1, kIi, kVi, kRi, kLi, kIx, kVx, Option.some.injEq, exists_eq_left', true_and, and_true, true_implies, false_implies, implies_true, not_true_eq_false, not_false_eq_true, true_or, or_true, false_or, or_false, forall_eq, iteT, iteF, LM_ hM, hR.1.1]
    refine mp_waitAt hM hR hI ho hL hi (t208_19 ?_)
    simp (disch := omega) only [vpT, nI_leI, nI_ltI, nI_eq, nleT, nleF, nltT, nltF, neqT, neqF, nI_add, pk_mul, subN, divN, nI_clamp, mI1, wrH, wrM1, wrM2, wrowH, wrowM, bI0, bI1, kIi, kVi, kRi, kLi, kIx, kVx, Option.some.injEq, exists_eq_left', true_and, and_true, true_implies, false_implies, implies_true, not_true_eq_false, not_false_eq_true, true_or, or_true, false_or, or_false, forall_eq, iteT, iteF, LM_ hM, hL.1 i hi, hL.2 i hi]
    have e : cst S o y (i + 1) = cw S y (cst S o y i) (o i) (slt S o i) := rfl
    rw [cw_m] at e
    refine ⟨fun h => ⟨fun h1 => ?_, fun h1 => ?_⟩, fun h => ?_⟩
    · rw [if_neg h, if_neg h1] at e
      exact ih _ _ ⟨_, by rw [e]; rfl, rfl⟩
    · rw [if_neg h, if_pos h1] at e
      exact ih _ _ ⟨_, by rw [e]; rfl, rfl⟩
    · rw [if_pos h] at e
      refine mp_ofCraft (w := 3) hM (by omega) (by decide) (t208_39 ?_)
      rw [(hR.2.1 _ hoi).2.2.2.1]
      simp (disch := omega) only [vpT, nI_leI, nI_ltI, nI_eq, nleT, nleF, nltT, nltF, neqT, neqF, nI_add, pk_mul, subN, divN, nI_clamp, mI1, wrH, wrM1, wrM2, wrowH, wrowM, bI0, bI1, kIi, kVi, kRi, kLi, kIx, kVx, Option.some.injEq, exists_eq_left', true_and, and_true, true_implies, false_implies, implies_true, not_true_eq_false, not_false_eq_true, true_or, or_true, false_or, or_false, forall_eq, iteT, iteF, LM_ hM]
      exact ih _ _ ⟨_, by rw [e], rfl⟩
  · rintro _ _ ⟨l4, rfl, rfl⟩
    refine t208_4 ?_
    simp (disch := omega) only [vpT, nI_leI, nI_ltI, nI_eq, nleT, nleF, nltT, nltF, neqT, neqF, nI_add, pk_mul, subN, divN, nI_clamp, mI1, wrH, wrM1, wrM2, wrowH, wrowM, bI0, bI1, kIi, kVi, kRi, kLi, kIx, kVx, Option.some.injEq, exists_eq_left', true_and, and_true, true_implies, false_implies, implies_true, not_true_eq_false, not_false_eq_true, true_or, or_true, false_or, or_false, forall_eq, iteT, iteF, LM_ hM, hR.1.1]
    exact k
theorem mp_holds (hM : LM L m) (hR : Rel (I (m + 1)) S n sn dn) (hI : BI S n sn dn) (ho : ∀ j, j < n → o j < n) (hL : ML I m S o n) (k : F (bI (hold S o n)) (L, I, J, t)) : cal (d + 2) 203 [.ref m] (L, I, J, t) (kI F X) := by
  have hn := hI.1.2
  refine e203 (t203_0 ?_)
  refine lqP (n := n) (fun i => hold S o i = true) (fun i => [some (.ref m), some (.int (nI i))]) rfl (fun i hi hd ih => t203_2 ?_) (fun hd => t203_2 ?_)
  · have hoi := ho i hi
    simp (disch := omega) only [vpT, nI_leI, nI_ltI, nI_eq, nleT, nleF, nltT, nltF, neqT, neqF, nI_add, pk_mul, subN, divN, nI_clamp, mI1, wrH, wrM1, wrM2, wrowH, wrowM, bI0, bI1, kIi, kVi, kRi, kLi, kIx, kVx, Option.some.injEq, exists_eq_left', true_and, and_true, true_implies, false_implies, implies_true, not_true_eq_false, not_false_eq_true, true_or, or_true, false_or, or_false, forall_eq, iteT, iteF, LM_ hM, hR.1.1, hL.1 i hi, hL.2 i hi]
    refine mp_ofCraft (w := 2) hM (by omega) (by decide) (t203_29 ?_)
    rw [(hR.2.1 _ hoi).2.2.1]
    simp (disch := omega) only [vpT, nI_leI, nI_ltI, nI_eq, nleT, nleF, nltT, nltF, neqT, neqF, nI_add, pk_mul, subN, divN, nI_clamp, mI1, wrH, wrM1, wrM2, wrowH, wrowM, bI0, bI1, kIi, kVi, kRi, kLi, kIx, kVx, Option.some.injEq, exists_eq_left', true_and, and_true, true_implies, false_implies, implies_true, not_true_eq_false, not_false_eq_true, true_or, or_true, false_or, or_false, forall_eq, iteT, iteF, LM_ hM]
    refine ⟨fun h => ih ?_, fun h => ?_⟩
    · unfold hold allB; rw [Bool.and_eq_true]; exact ⟨hd, decide_eq_true h⟩
    · rw [show hold S o n = false from allB_f hi (decide_eq_false h)] at k; exact k
  · simp (disch := omega) only [vpT, nI_leI, nI_ltI, nI_eq, nleT, nleF, nltT, nltF, neqT, neqF, nI_add, pk_mul, subN, divN, nI_clamp, mI1, wrH, wrM1, wrM2, wrowH, wrowM, bI0, bI1, kIi, kVi, kRi, kLi, kIx, kVx, Option.some.injEq, exists_eq_left', true_and, and_true, true_implies, false_implies, implies_true, not_true_eq_false, not_false_eq_true, true_or, or_true, false_or, or_false, forall_eq, iteT, iteF, LM_ hM, hR.1.1]
    rw [hd] at k
    exact k
theorem mp_frozen (hM : LM L m) (hR : Rel (I (m + 1)) S n sn dn) (hI : BI S n sn dn) (hL : ML I m S (ordN S) n) (k : F (nI (frz S n)) (L, I, J, t)) : cal (d + 1) 202 [.ref m] (L, I, J, t) (kI F X) := by
  have hn := hI.1.2
  unfold frz at k
  refine e202 (t202_0 ?_)
  refine lqP (n := n) (fun i => due (slt S (ordN S)) (bF S 13 + bF S 12) n 0 = due (slt S (ordN S)) (bF S 13 + bF S 12) (n - i) i) (fun i => [some (.ref m), some (.int (nI i))]) rfl (fun i hi hd ih => t202_2 ?_) (fun hd => t202_2 ?_)
  · simp (disch := omega) only [vpT, nI_leI, nI_ltI, nI_eq, nleT, nleF, nltT, nltF, neqT, neqF, nI_add, pk_mul, subN, divN, nI_clamp, mI1, wrH, wrM1, wrM2, wrowH, wrowM, bI0, bI1, kIi, kVi, kRi, kLi, kIx, kVx, Option.some.injEq, exists_eq_left', true_and, and_true, true_implies, false_implies, implies_true, not_true_eq_false, not_false_eq_true, true_or, or_true, false_or, or_false, forall_eq, iteT, iteF, LM_ hM, hR.1.1, hL.2 i hi, hR.1.2.1, hR.1.2.2.2.1]
    have e : due (slt S (ordN S)) (bF S 13 + bF S 12) (n - i) i = if bF S 13 + bF S 12 < slt S (ordN S) i then i else due (slt S (ordN S)) (bF S 13 + bF S 12) (n - (i + 1)) (i + 1) := by
      rw [show n - i = n - (i + 1) + 1 by omega]; rfl
    refine ⟨fun h => ?_, fun h => ih ?_⟩
    · rw [hd, e, if_pos h] at k; exact k
    · rw [hd, e, if_neg h]
  · simp (disch := omega) only [vpT, nI_leI, nI_ltI, nI_eq, nleT, nleF, nltT, nltF, neqT, neqF, nI_add, pk_mul, subN, divN, nI_clamp, mI1, wrH, wrM1, wrM2, wrowH, wrowM, bI0, bI1, kIi, kVi, kRi, kLi, kIx, kVx, Option.some.injEq, exists_eq_left', true_and, and_true, true_implies, false_implies, implies_true, not_true_eq_false, not_false_eq_true, true_or, or_true, false_or, or_false, forall_eq, iteT, iteF, LM_ hM, hR.1.1]
    rw [hd, Nat.sub_self] at k
    exact k
theorem mp_frozenNow (hM : LM L m) (hR : Rel (I (m + 1)) S n sn dn) (hI : BI S n sn dn) (hol : ∀ j, j < n → bOr S j = nI (ordN S j) ∧ ordN S j < n) (k : ∀ I2, same I I2 (ms m) → ML I2 m S (ordN S) n → F (nI (frz S n)) (L, I2, J, t)) : cal (d + 5) 195 [.ref m] (L, I, J, t) (kI F X) := by
  refine e195 (t195_0 ?_)
  simp (disch := omega) only [vpT, nI_leI, nI_ltI, nI_eq, nleT, nleF, nltT, nltF, neqT, neqF, nI_add, pk_mul, subN, divN, nI_clamp, mI1, wrH, wrM1, wrM2, wrowH, wrowM, bI0, bI1, kIi, kVi, kRi, kLi, kIx, kVx, Option.some.injEq, exists_eq_left', true_and, and_true, true_implies, false_implies, implies_true, not_true_eq_false, not_false_eq_true, true_or, or_true, false_or, or_false, forall_eq, iteT, iteF, LM_ hM]
  refine mp_laysPlan hM hR hI hol fun I2 hs hL => t195_4 ?_
  simp (disch := omega) only [vpT, nI_leI, nI_ltI, nI_eq, nleT, nleF, nltT, nltF, neqT, neqF, nI_add, pk_mul, subN, divN, nI_clamp, mI1, wrH, wrM1, wrM2, wrowH, wrowM, bI0, bI1, kIi, kVi, kRi, kLi, kIx, kVx, Option.some.injEq, exists_eq_left', true_and, and_true, true_implies, false_implies, implies_true, not_true_eq_false, not_false_eq_true, true_or, or_true, false_or, or_false, forall_eq, iteT, iteF, LM_ hM]
  refine mp_frozen hM (by rw [hs _ (by omega)]; exact hR) hI hL (t195_8 ?_)
  simp (disch := omega) only [vpT, nI_leI, nI_ltI, nI_eq, nleT, nleF, nltT, nltF, neqT, neqF, nI_add, pk_mul, subN, divN, nI_clamp, mI1, wrH, wrM1, wrM2, wrowH, wrowM, bI0, bI1, kIi, kVi, kRi, kLi, kIx, kVx, Option.some.injEq, exists_eq_left', true_and, and_true, true_implies, false_implies, implies_true, not_true_eq_false, not_false_eq_true, true_or, or_true, false_or, or_false, forall_eq, iteT, iteF, LM_ hM]
  exact k I2 hs hL
theorem mp_isHurried {c : Nat} (hM : LM L m) (hR : Rel (I (m + 1)) S n sn dn) (hI : BI S n sn dn) (hc : c < n) (k : F (bHu S c) (L, I, J, t)) : cal (d + 1) 207 [.ref m, .int (nI c)] (L, I, J, t) (kI F X) := by
  have hn := hI.1.2
  obtain ⟨w, hw, ew, hk⟩ := hR.2.2.2.2.2
  refine e207 (t207_0 ?_)
  simp (disch := omega) only [vpT, nI_leI, nI_ltI, nI_eq, nleT, nleF, nltT, nltF, neqT, neqF, nI_add, pk_mul, subN, divN, nI_clamp, mI1, wrH, wrM1, wrM2, wrowH, wrowM, bI0, bI1, kIi, kVi, kRi, kLi, kIx, kVx, Option.some.injEq, exists_eq_left', true_and, and_true, true_implies, false_implies, implies_true, not_true_eq_false, not_false_eq_true, true_or, or_true, false_or, or_false, forall_eq, iteT, iteF, LM_ hM, ew]
  rw [bit_get w hw c (by omega), Nat.testBit_eq_decide_div_mod_eq]
  rw [hk c hc] at k
  have : w / 2 ^ c % 2 = 0 ∨ w / 2 ^ c % 2 = 1 := by omega
  rcases this with q | q
  · rw [q] at k ⊢; exact k
  · rw [q] at k ⊢; exact k
theorem mp_rankOf {c : Nat} (hM : LM L m) (hR : Rel (I (m + 1)) S n sn dn) (hI : BI S n sn dn) (hV : BV S n sn dn T) (hc : c < n) (k : F (nI (rk S n c)) (L, I, J, t)) : cal (d + 2) 206 [.ref m, .int (nI c)] (L, I, J, t) (kI F X) := by
  have hn := hI.1.2
  have hu := RelHU hR
  have hT := hV.1
  refine e206 (t206_0 ?_)
  refine lg (n := n) (fun i l h => ∃ l4 l5, l = [some (.ref m), some (.int (nI c)), some (.int (nI (rk S i c))), some (.int (nI i)), l4, l5] ∧ h = (L, I, J, t)) ?_ ?_ (Nat.zero_le _) _ _ ⟨_, _, rfl, rfl⟩
  · rintro i hi ih _ _ ⟨l4, l5, rfl, rfl⟩
    refine t206_4 ?_
    simp (disch := omega) only [vpT, nI_leI, nI_ltI, nI_eq, nleT, nleF, nltT, nltF, neqT, neqF, nI_add, pk_mul, subN, divN, nI_clamp, mI1, wrH, wrM1, wrM2, wrowH, wrowM, bI0, bI1, kIi, kVi, kRi, kLi, kIx, kVx, Option.some.injEq, exists_eq_left', true_and, and_true, true_implies, false_implies, implies_true, not_true_eq_false, not_false_eq_true, true_or, or_true, false_or, or_false, forall_eq, iteT, iteF, LM_ hM, hR.1.1]
    refine mp_ofCraft (w := 1) hM (by omega) (by decide) (t206_20 ?_)
    rw [(hR.2.1 _ hi).2.1]
    simp (disch := omega) only [vpT, nI_leI, nI_ltI, nI_eq, nleT, nleF, nltT, nltF, neqT, neqF, nI_add, pk_mul, subN, divN, nI_clamp, mI1, wrH, wrM1, wrM2, wrowH, wrowM, bI0, bI1, kIi, kVi, kRi, kLi, kIx, kVx, Option.some.injEq, exists_eq_left', true_and, and_true, true_implies, false_implies, implies_true, not_true_eq_false, not_false_eq_true, true_or, or_true, false_or, or_false, forall_eq, iteT, iteF, LM_ hM]
    refine mp_ofCraft (w := 1) hM (by omega) (by decide) (t206_26 ?_)
    rw [(hR.2.1 _ hc).2.1]
    simp (disch := omega) only [vpT, nI_leI, nI_ltI, nI_eq, nleT, nleF, nltT, nltF, neqT, neqF, nI_add, pk_mul, subN, divN, nI_clamp, mI1, wrH, wrM1, wrM2, wrowH, wrowM, bI0, bI1, kIi, kVi, kRi, kLi, kIx, kVx, Option.some.injEq, exists_eq_left', true_and, and_true, true_implies, false_implies, implies_true, not_true_eq_false, not_false_eq_true, true_or, or_true, false_or, or_false, forall_eq, iteT, iteF, LM_ hM]
    refine mp_isHurried hM hR hI hi (t206_34 ?_)
    simp (disch := omega) only [vpT, nI_leI, nI_ltI, nI_eq, nleT, nleF, nltT, nltF, neqT, neqF, nI_add, pk_mul, subN, divN, nI_clamp, mI1, wrH, wrM1, wrM2, wrowH, wrowM, bI0, bI1, kIi, kVi, kRi, kLi, kIx, kVx, Option.some.injEq, exists_eq_left', true_and, and_true, true_implies, false_implies, implies_true, not_true_eq_false, not_false_eq_true, true_or, or_true, false_or, or_false, forall_eq, iteT, iteF, LM_ hM]
    refine mp_isHurried hM hR hI hc (t206_39 ?_)
    have b1 := hV.2.1 i hi
    have b2 := hV.2.1 c hc
    have es : (bRe S i - bRe S c).toInt = (bRe S i).toInt - (bRe S c).toInt := subI (by omega) (by omega)
    have z : (nI 0).toInt = 0 := rfl
    have c1 : (bRe S i - bRe S c < nI 0) = ((bRe S i).toInt < (bRe S c).toInt) := by rw [Int32.lt_iff_toInt_lt, es, z]; exact propext ⟨fun h => by omega, fun h => by omega⟩
    have c2 : (bRe S i - bRe S c = nI 0) = ((bRe S i).toInt = (bRe S c).toInt) := by rw [← Int32.toInt_inj, es, z]; exact propext ⟨fun h => by omega, fun h => by omega⟩
    have step : ∀ b : Bool, ahd S i c = b → ∀ l4 l5, Wp (cal (d + 1)) kc_206 [] (kI F X) (4, [some (.ref m), some (.int (nI c)), some (.int (nI (rk S i c + if b then 1 else 0))), some (.int (nI (i + 1))), l4, l5], [], (L, I, J, t)) := fun b hb l4 l5 => by
      refine ih _ _ ⟨l4, l5, ?_, rfl⟩
      have : rk S (i + 1) c = rk S i c + if b then 1 else 0 := by rw [← hb]; rfl
      rw [this]
    have yes : ∀ l4 l5, ahd S i c = true → Wp (cal (d + 1)) kc_206 [] (kI F X) (4, [some (.ref m), some (.int (nI c)), some (.int (nI (rk S i c + 1))), some (.int (nI (i + 1))), l4, l5], [], (L, I, J, t)) := fun l4 l5 h => step true h l4 l5
    have no : ∀ l4 l5, ¬ ahd S i c = true → Wp (cal (d + 1)) kc_206 [] (kI F X) (4, [some (.ref m), some (.int (nI c)), some (.int (nI (rk S i c + 0))), some (.int (nI (i + 1))), l4, l5], [], (L, I, J, t)) := fun l4 l5 h => step false (by simpa using h) l4 l5
    have hrk := cntB_le (p := fun k => ahd S k c) (n := i)
    rw [ahd_iff (hu i hi) (hu c hc)] at yes no
    rcases hu i hi with q1 | q1 <;> rcases hu c hc with q2 | q2
    · rw [q1, q2] at yes no ⊢
      simp (disch := omega) only [show nI 0 - nI 0 = nI 0 from rfl, c1, c2, nI_leI, nI_ltI, nI_add, nltT, nltF, true_implies, false_implies, true_and, and_true, not_true_eq_false, not_false_eq_true, nI01, nI10, false_and, and_false, false_or, or_false] at yes no ⊢
      refine ⟨fun h => yes _ _ (Or.inl h), fun h => ⟨fun h1 => no _ _ (fun q => by omega), fun h1 => ⟨fun h2 => no _ _ (fun q => by omega), fun h2 => yes _ _ (Or.inr ⟨h1, by omega⟩)⟩⟩⟩
    · rw [q1, q2] at yes no ⊢
      simp (disch := omega) only [show (nI 0 < nI 0 - nI 1) = False from eq_false (by decide), show (nI 0 - nI 1 = nI 0) = False from eq_false (by decide), nI_add, true_implies, false_implies, true_and, and_true, not_true_eq_false, not_false_eq_true, nI01, nI10, false_and, and_false, false_or, or_false] at yes no ⊢
      exact no _ _
    · rw [q1, q2] at yes no ⊢
      simp (disch := omega) only [show (nI 0 < nI 1 - nI 0) = True from eq_true (by decide), nI_add, true_implies, false_implies, true_and, and_true, not_true_eq_false, not_false_eq_true, true_or] at yes no ⊢
      exact yes _ _
    · rw [q1, q2] at yes no ⊢
      simp (disch := omega) only [show nI 1 - nI 1 = nI 0 from rfl, c1, c2, nI_leI, nI_ltI, nI_add, nltT, nltF, true_implies, false_implies, true_and, and_true, not_true_eq_false, not_false_eq_true, nI01, nI10, false_and, and_false, false_or, or_false] at yes no ⊢
      refine ⟨fun h => yes _ _ (Or.inl h), fun h => ⟨fun h1 => no _ _ (fun q => by omega), fun h1 => ⟨fun h2 => no _ _ (fun q => by omega), fun h2 => yes _ _ (Or.inr ⟨h1, by omega⟩)⟩⟩⟩
  · rintro _ _ ⟨l4, l5, rfl, rfl⟩
    refine t206_4 ?_
    simp (disch := omega) only [vpT, nI_leI, nI_ltI, nI_eq, nleT, nleF, nltT, nltF, neqT, neqF, nI_add, pk_mul, subN, divN, nI_clamp, mI1, wrH, wrM1, wrM2, wrowH, wrowM, bI0, bI1, kIi, kVi, kRi, kLi, kIx, kVx, Option.some.injEq, exists_eq_left', true_and, and_true, true_implies, false_implies, implies_true, not_true_eq_false, not_false_eq_true, true_or, or_true, false_or, or_false, forall_eq, iteT, iteF, LM_ hM, hR.1.1]
    exact k
end MODEL1
