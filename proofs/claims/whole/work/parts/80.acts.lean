/-! The class's acts; its checks. -/
def LA (L : hL) (A : Nat) : Prop := (L.1 A = 1 ∧ L.2.2.1 A 0 = some (A + 1) ∧ L.1 (A + 1) = 23 ∧ L.2.1 (A + 1) = 16) ∧ ∀ i, i < 16 → L.2.2.1 (A + 1) i = some (A + 2 + 13 * i) ∧ LB L (A + 2 + 13 * i)
/-- where the i-th act's board lies -/
def rng (fi i : Nat) : Nat := (fi + i) % 16
section ACTS
variable {d : Nat} {L : hL} {I : Nat → Nat → Int32} {J : Nat → Nat → Int64} {t : tl} {A b fi ac : Nat} {F : Int32 → hp → Prop} {G : hp → Prop} {X : Nat → hp → Prop}
--facts hA.1
theorem sp_keep (hA : LA L A) (hB : LB L b) (hb : b + 12 < A ∨ A + 2 + 208 ≤ b) (h1 : I A 1 = nI fi) (h2 : I A 2 = nI ac) (hf : fi < 16) (hac : ac ≤ 16) (k : ∀ I2 fi' s, fi' < 16 → s < 16 → fi' = (if ac = 16 then (fi + 1) % 16 else fi) → s = rng fi' (mn16 (ac + 1) - 1) → same I I2 (fun a => a = A ∨ A + 2 + 13 * s ≤ a ∧ a ≤ A + 2 + 13 * s + 12) → I2 A 1 = nI fi' → I2 A 2 = nI (mn16 (ac + 1)) → AG (bd I2 (A + 2 + 13 * s)) (bd I b) → G (L, I2, J, t)) : cal (d + 3) 35 [.ref A, .ref b] (L, I, J, t) (kV G X) := by
  refine e35 (t35_0 ?_)
  by_cases h : ac = 16
  · subst h
    have hs : ((fi + 1) % 16 + 15) % 16 < 16 := Nat.mod_lt _ (by decide)
    have hC := hA.2 _ hs
    generalize hsv : ((fi + 1) % 16 + 15) % 16 = s at hs hC
    have e1 : fi + 1 - (fi + 1) / 16 * 16 = (fi + 1) % 16 := by omega
    have e3 : (fi + 1) % 16 + 15 - ((fi + 1) % 16 + 15) / 16 * 16 = s := by omega
    simp (disch := omega) only [vpT, nI_leI, nI_ltI, nI_eq, nleT, nleF, nltT, nltF, neqT, neqF, nI_add, pk_mul, subN, divN, nI_clamp, mI1, wrH, wrM1, wrM2, wrowH, wrowM, bI0, bI1, kIi, kVi, kRi, kLi, kIx, kVx, Option.some.injEq, exists_eq_left', true_and, and_true, true_implies, false_implies, implies_true, not_true_eq_false, not_false_eq_true, true_or, or_true, false_or, or_false, forall_eq, iteT, iteF, hA.1, h1, h2, e1, e3, hC.1, LB_ hC.2]
    refine sp_copyFrom hC.2 hB (by omega) fun I2 ks kA => t35_53 ?_
    have e2 : I2 A 2 = nI 15 := by rw [ks A (by omega)]; simp (disch := omega) only [vpT, nI_leI, nI_ltI, nI_eq, nleT, nleF, nltT, nltF, neqT, neqF, nI_add, pk_mul, subN, divN, nI_clamp, mI1, wrH, wrM1, wrM2, wrowH, wrowM, bI0, bI1, kIi, kVi, kRi, kLi, kIx, kVx, Option.some.injEq, exists_eq_left', true_and, and_true, true_implies, false_implies, implies_true, not_true_eq_false, not_false_eq_true, true_or, or_true, false_or, or_false, forall_eq, iteT, iteF, hA.1]
    simp (disch := omega) only [vpT, nI_leI, nI_ltI, nI_eq, nleT, nleF, nltT, nltF, neqT, neqF, nI_add, pk_mul, subN, divN, nI_clamp, mI1, wrH, wrM1, wrM2, wrowH, wrowM, bI0, bI1, kIi, kVi, kRi, kLi, kIx, kVx, Option.some.injEq, exists_eq_left', true_and, and_true, true_implies, false_implies, implies_true, not_true_eq_false, not_false_eq_true, true_or, or_true, false_or, or_false, forall_eq, iteT, iteF, hA.1, e2]
    refine k _ ((fi + 1) % 16) s (Nat.mod_lt _ (by decide)) hs (by rw [if_pos rfl]) (by unfold rng mn16; exact hsv.symm) (fun a ha => ?_) ?_ ?_ ?_
    · have q1 : a ≠ A := fun q => ha (Or.inl q)
      simp (disch := omega) only [vpT, nI_leI, nI_ltI, nI_eq, nleT, nleF, nltT, nltF, neqT, neqF, nI_add, pk_mul, subN, divN, nI_clamp, mI1, wrH, wrM1, wrM2, wrowH, wrowM, bI0, bI1, kIi, kVi, kRi, kLi, kIx, kVx, Option.some.injEq, exists_eq_left', true_and, and_true, true_implies, false_implies, implies_true, not_true_eq_false, not_false_eq_true, true_or, or_true, false_or, or_false, forall_eq, iteT, iteF, hA.1]
      rw [ks a (fun q => ha (Or.inr q))]
      simp (disch := omega) only [vpT, nI_leI, nI_ltI, nI_eq, nleT, nleF, nltT, nltF, neqT, neqF, nI_add, pk_mul, subN, divN, nI_clamp, mI1, wrH, wrM1, wrM2, wrowH, wrowM, bI0, bI1, kIi, kVi, kRi, kLi, kIx, kVx, Option.some.injEq, exists_eq_left', true_and, and_true, true_implies, false_implies, implies_true, not_true_eq_false, not_false_eq_true, true_or, or_true, false_or, or_false, forall_eq, iteT, iteF, hA.1]
    · simp (disch := omega) only [vpT, nI_leI, nI_ltI, nI_eq, nleT, nleF, nltT, nltF, neqT, neqF, nI_add, pk_mul, subN, divN, nI_clamp, mI1, wrH, wrM1, wrM2, wrowH, wrowM, bI0, bI1, kIi, kVi, kRi, kLi, kIx, kVx, Option.some.injEq, exists_eq_left', true_and, and_true, true_implies, false_implies, implies_true, not_true_eq_false, not_false_eq_true, true_or, or_true, false_or, or_false, forall_eq, iteT, iteF, hA.1]
      rw [ks A (by omega)]
      simp (disch := omega) only [vpT, nI_leI, nI_ltI, nI_eq, nleT, nleF, nltT, nltF, neqT, neqF, nI_add, pk_mul, subN, divN, nI_clamp, mI1, wrH, wrM1, wrM2, wrowH, wrowM, bI0, bI1, kIi, kVi, kRi, kLi, kIx, kVx, Option.some.injEq, exists_eq_left', true_and, and_true, true_implies, false_implies, implies_true, not_true_eq_false, not_false_eq_true, true_or, or_true, false_or, or_false, forall_eq, iteT, iteF, hA.1]
    · simp (disch := omega) only [vpT, nI_leI, nI_ltI, nI_eq, nleT, nleF, nltT, nltF, neqT, neqF, nI_add, pk_mul, subN, divN, nI_clamp, mI1, wrH, wrM1, wrM2, wrowH, wrowM, bI0, bI1, kIi, kVi, kRi, kLi, kIx, kVx, Option.some.injEq, exists_eq_left', true_and, and_true, true_implies, false_implies, implies_true, not_true_eq_false, not_false_eq_true, true_or, or_true, false_or, or_false, forall_eq, iteT, iteF, hA.1]
      rfl
    · rw [show bd (wr I2 A 2 (nI 16)) (A + 2 + 13 * s) = bd I2 (A + 2 + 13 * s) from bd_same fun a q1 q2 => wrM1 (by omega)]
      have eb : bd (wr (wr I A 1 (nI ((fi + 1) % 16))) A 2 (nI 15)) b = bd I b := bd_same fun a q1 q2 => by rw [wrM1 (by omega), wrM1 (by omega)]
      rw [eb] at kA
      exact kA
  · have hs : (fi + ac) % 16 < 16 := Nat.mod_lt _ (by decide)
    have hC := hA.2 _ hs
    generalize hsv : (fi + ac) % 16 = s at hs hC
    have e3 : fi + ac - (fi + ac) / 16 * 16 = s := by omega
    simp (disch := omega) only [vpT, nI_leI, nI_ltI, nI_eq, nleT, nleF, nltT, nltF, neqT, neqF, nI_add, pk_mul, subN, divN, nI_clamp, mI1, wrH, wrM1, wrM2, wrowH, wrowM, bI0, bI1, kIi, kVi, kRi, kLi, kIx, kVx, Option.some.injEq, exists_eq_left', true_and, and_true, true_implies, false_implies, implies_true, not_true_eq_false, not_false_eq_true, true_or, or_true, false_or, or_false, forall_eq, iteT, iteF, hA.1, h1, h2, e3, hC.1, LB_ hC.2]
    refine sp_copyFrom hC.2 hB (by omega) fun I2 ks kA => t35_53 ?_
    have e2 : I2 A 2 = nI ac := by rw [ks A (by omega)]; exact h2
    simp (disch := omega) only [vpT, nI_leI, nI_ltI, nI_eq, nleT, nleF, nltT, nltF, neqT, neqF, nI_add, pk_mul, subN, divN, nI_clamp, mI1, wrH, wrM1, wrM2, wrowH, wrowM, bI0, bI1, kIi, kVi, kRi, kLi, kIx, kVx, Option.some.injEq, exists_eq_left', true_and, and_true, true_implies, false_implies, implies_true, not_true_eq_false, not_false_eq_true, true_or, or_true, false_or, or_false, forall_eq, iteT, iteF, hA.1, e2]
    have em : mn16 (ac + 1) = ac + 1 := by unfold mn16; omega
    refine k _ fi s hf hs (by rw [if_neg h]) (by rw [em]; exact hsv.symm) (fun a ha => ?_) ?_ ?_ ?_
    · have q1 : a ≠ A := fun q => ha (Or.inl q)
      simp (disch := omega) only [vpT, nI_leI, nI_ltI, nI_eq, nleT, nleF, nltT, nltF, neqT, neqF, nI_add, pk_mul, subN, divN, nI_clamp, mI1, wrH, wrM1, wrM2, wrowH, wrowM, bI0, bI1, kIi, kVi, kRi, kLi, kIx, kVx, Option.some.injEq, exists_eq_left', true_and, and_true, true_implies, false_implies, implies_true, not_true_eq_false, not_false_eq_true, true_or, or_true, false_or, or_false, forall_eq, iteT, iteF, hA.1]
      exact ks a (fun q => ha (Or.inr q))
    · simp (disch := omega) only [vpT, nI_leI, nI_ltI, nI_eq, nleT, nleF, nltT, nltF, neqT, neqF, nI_add, pk_mul, subN, divN, nI_clamp, mI1, wrH, wrM1, wrM2, wrowH, wrowM, bI0, bI1, kIi, kVi, kRi, kLi, kIx, kVx, Option.some.injEq, exists_eq_left', true_and, and_true, true_implies, false_implies, implies_true, not_true_eq_false, not_false_eq_true, true_or, or_true, false_or, or_false, forall_eq, iteT, iteF, hA.1]
      rw [ks A (by omega)]
      exact h1
    · simp (disch := omega) only [vpT, nI_leI, nI_ltI, nI_eq, nleT, nleF, nltT, nltF, neqT, neqF, nI_add, pk_mul, subN, divN, nI_clamp, mI1, wrH, wrM1, wrM2, wrowH, wrowM, bI0, bI1, kIi, kVi, kRi, kLi, kIx, kVx, Option.some.injEq, exists_eq_left', true_and, and_true, true_implies, false_implies, implies_true, not_true_eq_false, not_false_eq_true, true_or, or_true, false_or, or_false, forall_eq, iteT, iteF, hA.1, em]
    · rw [show bd (wr I2 A 2 (nI (ac + 1))) (A + 2 + 13 * s) = bd I2 (A + 2 + 13 * s) from bd_same fun a q1 q2 => wrM1 (by omega)]
      exact kA
theorem sp_takeBack (hA : LA L A) (hB : LB L b) (hb : b + 12 < A ∨ A + 2 + 208 ≤ b) (h1 : I A 1 = nI fi) (h2 : I A 2 = nI ac) (hf : fi < 16) (hac : ac ≤ 16) (k0 : ac = 0 → F (nI 0) (L, I, J, t)) (k : 0 < ac → ∀ I2, same I I2 (fun a => a = A ∨ b ≤ a ∧ a ≤ b + 12) → I2 A 1 = nI fi → I2 A 2 = nI (ac - 1) → AG (bd I2 b) (bd I (A + 2 + 13 * rng fi (ac - 1))) → F (nI 1) (L, I2, J, t)) : cal (d + 3) 54 [.ref A, .ref b] (L, I, J, t) (kI F X) := by
  refine e54 (t54_0 ?_)
  by_cases h : ac = 0
  · simp (disch := omega) only [vpT, nI_leI, nI_ltI, nI_eq, nleT, nleF, nltT, nltF, neqT, neqF, nI_add, pk_mul, subN, divN, nI_clamp, mI1, wrH, wrM1, wrM2, wrowH, wrowM, bI0, bI1, kIi, kVi, kRi, kLi, kIx, kVx, Option.some.injEq, exists_eq_left', true_and, and_true, true_implies, false_implies, implies_true, not_true_eq_false, not_false_eq_true, true_or, or_true, false_or, or_false, forall_eq, iteT, iteF, hA.1, h2]
    exact k0 h
  · have hs : (fi + (ac - 1)) % 16 < 16 := Nat.mod_lt _ (by decide)
    have hC := hA.2 _ hs
    have kk := k (by omega)
    unfold rng at kk
    generalize hsv : (fi + (ac - 1)) % 16 = s at hs hC kk
    have e3 : fi + (ac - 1) - (fi + (ac - 1)) / 16 * 16 = s := by omega
    simp (disch := omega) only [vpT, nI_leI, nI_ltI, nI_eq, nleT, nleF, nltT, nltF, neqT, neqF, nI_add, pk_mul, subN, divN, nI_clamp, mI1, wrH, wrM1, wrM2, wrowH, wrowM, bI0, bI1, kIi, kVi, kRi, kLi, kIx, kVx, Option.some.injEq, exists_eq_left', true_and, and_true, true_implies, false_implies, implies_true, not_true_eq_false, not_false_eq_true, true_or, or_true, false_or, or_false, forall_eq, iteT, iteF, hA.1, h1, h2, e3, hC.1, LB_ hB]
    refine sp_copyFrom hB hC.2 (by omega) fun I2 ks kA => t54_40 ?_
    simp (disch := omega) only [vpT, nI_leI, nI_ltI, nI_eq, nleT, nleF, nltT, nltF, neqT, neqF, nI_add, pk_mul, subN, divN, nI_clamp, mI1, wrH, wrM1, wrM2, wrowH, wrowM, bI0, bI1, kIi, kVi, kRi, kLi, kIx, kVx, Option.some.injEq, exists_eq_left', true_and, and_true, true_implies, false_implies, implies_true, not_true_eq_false, not_false_eq_true, true_or, or_true, false_or, or_false, forall_eq, iteT, iteF, hA.1]
    refine kk I2 (fun a ha => ?_) ?_ ?_ ?_
    · rw [ks a (fun q => ha (Or.inr q)), wrM1 (fun q => ha (Or.inl q))]
    · rw [ks A (by omega)]
      simp (disch := omega) only [vpT, nI_leI, nI_ltI, nI_eq, nleT, nleF, nltT, nltF, neqT, neqF, nI_add, pk_mul, subN, divN, nI_clamp, mI1, wrH, wrM1, wrM2, wrowH, wrowM, bI0, bI1, kIi, kVi, kRi, kLi, kIx, kVx, Option.some.injEq, exists_eq_left', true_and, and_true, true_implies, false_implies, implies_true, not_true_eq_false, not_false_eq_true, true_or, or_true, false_or, or_false, forall_eq, iteT, iteF, hA.1]
      exact h1
    · rw [ks A (by omega)]
      simp (disch := omega) only [vpT, nI_leI, nI_ltI, nI_eq, nleT, nleF, nltT, nltF, neqT, neqF, nI_add, pk_mul, subN, divN, nI_clamp, mI1, wrH, wrM1, wrM2, wrowH, wrowM, bI0, bI1, kIi, kVi, kRi, kLi, kIx, kVx, Option.some.injEq, exists_eq_left', true_and, and_true, true_implies, false_implies, implies_true, not_true_eq_false, not_false_eq_true, true_or, or_true, false_or, or_false, forall_eq, iteT, iteF, hA.1]
    · rw [show bd (wr I A 2 (nI (ac - 1))) (A + 2 + 13 * s) = bd I (A + 2 + 13 * s) from bd_same fun a q1 q2 => wrM1 (by omega)] at kA
      exact kA
end ACTS
