/-! The class's runways: put in, trade, around, done. -/
/-- what is tried, and the table's rows -/
abbrev tt (r : Nat) : Nat → Prop := fun a => a = r + 1 ∨ r + 23 < a ∧ a ≤ r + 23 + 3
/-- the lesser one, as the code has it -/
def mn (a b : Int32) : Int32 := if b < a then b else a
/-- the plan's order -/
abbrev oP (S : BS) : Nat → Nat := ordN S
def pokS (S : BS) (n a p : Nat) : Bool := hold S (mvd (ordN S) a p) n
def pcoS (S : BS) (n a p : Nat) : Int32 := cst S (mvd (ordN S) a p) (nI 0) n
def pinR (S : BS) (n a : Nat) : Int32 := if a < frz S n then -1 else (bst (pokS S n a) (pcoS S n a) (frz S n) (n - frz S n)).1
def tokS (S : BS) (n p : Nat) : Bool := hold S (swp (ordN S) p) n && alw S n (frz S n) (swp (ordN S) p)
def tcoS (S : BS) (n p : Nat) : Int32 := cst S (swp (ordN S) p) (nI 0) n
def trdR (S : BS) (n : Nat) : Int32 := (trd (tokS S n) (tcoS S n) (cst S (ordN S) (nI 0) n) (frz S n) (n - 1 - frz S n)).1
theorem frz_le {S : BS} {n : Nat} : frz S n ≤ n := by
  have := due_le (f := slt S (ordN S)) (x := bF S 13 + bF S 12) (m := n) (k := 0)
  unfold frz; omega
theorem hold_congr {S : BS} {o o' : Nat → Nat} {n : Nat} (h : ∀ j, j < n → o j = o' j) : hold S o n = hold S o' n :=
  allB_congr fun j hj => by rw [slt_congr (fun i hi => h i (by omega)), h j hj]
theorem cst_congr {S : BS} {o o' : Nat → Nat} {y : Int32} : ∀ {n : Nat}, (∀ j, j < n → o j = o' j) → cst S o y n = cst S o' y n
  | 0, _ => rfl
  | n + 1, h => by
    unfold cst
    rw [cst_congr (fun j hj => h j (by omega)), slt_congr (fun i hi => h i (by omega)), h n (by omega)]
theorem btf {b : Bool} (h : ¬ b = false) : b = true := by cases b with
  | true => rfl
  | false => exact absurd rfl h
section RUNWAY3
variable {d : Nat} {L : hL} {I : Nat → Nat → Int32} {J : Nat → Nat → Int64} {t : tl} {r b n sn dn : Nat} {F : Int32 → hp → Prop} {G : hp → Prop} {N : Nat → hp → Prop} {X : Nat → hp → Prop}
--facts hR.1, LB_ hR.b, LT_ hR.t, LT_ hR.s
theorem sp_placeToPutIn {c a : Nat} (hR : LR L r) (hI : BI (bd I (r + 2)) n sn dn) (hP : PI (bd I (r + 2)) n) (ha : a < n) (hc : ordN (bd I (r + 2)) a = c) (k : ∀ I2, same I I2 (tt r) → F (pinR (bd I (r + 2)) n a) (L, I2, J, t)) : cal (d + 5) 139 [.ref r, .int (nI c)] (L, I, J, t) (kI F X) := by
  have hn := hI.1.2
  have hfz := frz_le (S := bd I (r + 2)) (n := n)
  refine e139 (t139_0 ?_)
  simp (disch := omega) only [vpT, nI_leI, nI_ltI, nI_eq, nleT, nleF, nltT, nltF, neqT, neqF, nI_add, pk_mul, subN, divN, nI_clamp, mI1, wrH, wrM1, wrM2, wrowH, wrowM, bI0, bI1, kIi, kVi, kRi, kLi, kIx, kVx, Option.some.injEq, exists_eq_left', true_and, and_true, true_implies, false_implies, implies_true, not_true_eq_false, not_false_eq_true, true_or, or_true, false_or, or_false, forall_eq, iteT, iteF, hR.1, LB_ hR.b, LT_ hR.t, LT_ hR.s]
  refine sp_frozen hR hI fun I1 hs1 hT1 => t139_4 ?_
  have hb1 : bd I1 (r + 2) = bd I (r + 2) := hs1.bd (fun a h1 h2 => by omega)
  simp (disch := omega) only [vpT, nI_leI, nI_ltI, nI_eq, nleT, nleF, nltT, nltF, neqT, neqF, nI_add, pk_mul, subN, divN, nI_clamp, mI1, wrH, wrM1, wrM2, wrowH, wrowM, bI0, bI1, kIi, kVi, kRi, kLi, kIx, kVx, Option.some.injEq, exists_eq_left', true_and, and_true, true_implies, false_implies, implies_true, not_true_eq_false, not_false_eq_true, true_or, or_true, false_or, or_false, forall_eq, iteT, iteF, hR.1, LB_ hR.b, LT_ hR.t, LT_ hR.s]
  refine sp_placeOf (p := a) hR.b (by rw [hb1]; exact hI) (by rw [hb1]; exact hP) ha (by rw [hb1]; exact hc) (t139_13 ?_)
  simp (disch := omega) only [vpT, nI_leI, nI_ltI, nI_eq, nleT, nleF, nltT, nltF, neqT, neqF, nI_add, pk_mul, subN, divN, nI_clamp, mI1, wrH, wrM1, wrM2, wrowH, wrowM, bI0, bI1, kIi, kVi, kRi, kLi, kIx, kVx, Option.some.injEq, exists_eq_left', true_and, and_true, true_implies, false_implies, implies_true, not_true_eq_false, not_false_eq_true, true_or, or_true, false_or, or_false, forall_eq, iteT, iteF, hR.1, LB_ hR.b, LT_ hR.t, LT_ hR.s]
  unfold pinR at k
  refine ⟨fun h => ?_, fun h => ?_⟩
  · refine lg (n := n - frz (bd I (r + 2)) n) (fun i l h => ∃ I2 l7, l = [some (.ref r), some (.int (nI c)), some (.int (nI (frz (bd I (r + 2)) n))), some (.int (nI a)), some (.int (bst (pokS (bd I (r + 2)) n a) (pcoS (bd I (r + 2)) n a) (frz (bd I (r + 2)) n) i).1), some (.int (bst (pokS (bd I (r + 2)) n a) (pcoS (bd I (r + 2)) n a) (frz (bd I (r + 2)) n) i).2), some (.int (nI (frz (bd I (r + 2)) n + i))), l7] ∧ h = (L, I2, J, t) ∧ same I I2 (tt r)) ?_ ?_ (Nat.zero_le _) _ _ ⟨I1, _, rfl, rfl, hs1.up (fun a h => Or.inr h)⟩
    · rintro i hi ih _ _ ⟨I2, l7, rfl, rfl, hs⟩
      have hb : bd I2 (r + 2) = bd I (r + 2) := hs.bd (fun a h1 h2 => by omega)
      have i0 : I2 (r + 2) 0 = nI n := by rw [hs _ (by omega)]; exact hI.1.1
      refine t139_31 ?_
      simp (disch := omega) only [vpT, nI_leI, nI_ltI, nI_eq, nleT, nleF, nltT, nltF, neqT, neqF, nI_add, pk_mul, subN, divN, nI_clamp, mI1, wrH, wrM1, wrM2, wrowH, wrowM, bI0, bI1, kIi, kVi, kRi, kLi, kIx, kVx, Option.some.injEq, exists_eq_left', true_and, and_true, true_implies, false_implies, implies_true, not_true_eq_false, not_false_eq_true, true_or, or_true, false_or, or_false, forall_eq, iteT, iteF, hR.1, LB_ hR.b, LT_ hR.t, LT_ hR.s, i0]
      refine sp_tryPlace (n := n) (sn := sn) (dn := dn) hR (by rw [hb]; exact hI) ha (by omega) fun I3 hs3 hr3 => t139_50 ?_
      rw [hb] at hr3
      have hb3 : bd I3 (r + 2) = bd I (r + 2) := (hs3.bd (fun a h1 h2 => by omega)).trans hb
      simp (disch := omega) only [vpT, nI_leI, nI_ltI, nI_eq, nleT, nleF, nltT, nltF, neqT, neqF, nI_add, pk_mul, subN, divN, nI_clamp, mI1, wrH, wrM1, wrM2, wrowH, wrowM, bI0, bI1, kIi, kVi, kRi, kLi, kIx, kVx, Option.some.injEq, exists_eq_left', true_and, and_true, true_implies, false_implies, implies_true, not_true_eq_false, not_false_eq_true, true_or, or_true, false_or, or_false, forall_eq, iteT, iteF, hR.1, LB_ hR.b, LT_ hR.t, LT_ hR.s]
      refine sp_lay (n := n) (sn := sn) (dn := dn) (o := mvd (ordN (bd I (r + 2))) a (frz (bd I (r + 2)) n + i)) hR.t hR.b (by omega) (by rw [hb3]; exact hI) hR.1.2.2.2.2.2.1 hR.1.2.2.2.2.2.2.1 (by omega) (fun j hj => ⟨hr3 j hj, mvd_lt (fun j hj => (bi_or hI hj).2) ha (by omega) hj⟩) fun I4 hs4 hT4 => t139_61 ?_
      have hb4 : bd I4 (r + 2) = bd I (r + 2) := (hs4.bd (fun a h1 h2 => by omega)).trans hb3
      rw [hb3] at hT4
      simp (disch := omega) only [vpT, nI_leI, nI_ltI, nI_eq, nleT, nleF, nltT, nltF, neqT, neqF, nI_add, pk_mul, subN, divN, nI_clamp, mI1, wrH, wrM1, wrM2, wrowH, wrowM, bI0, bI1, kIi, kVi, kRi, kLi, kIx, kVx, Option.some.injEq, exists_eq_left', true_and, and_true, true_implies, false_implies, implies_true, not_true_eq_false, not_false_eq_true, true_or, or_true, false_or, or_false, forall_eq, iteT, iteF, hR.1, LB_ hR.b, LT_ hR.t, LT_ hR.s]
      refine sp_cost (n := n) (sn := sn) (dn := dn) (o := mvd (ordN (bd I (r + 2))) a (frz (bd I (r + 2)) n + i)) hR.t hR.b (by rw [hb4]; exact hI) (fun j hj => mvd_lt (fun j hj => (bi_or hI hj).2) ha (by omega) hj) (by rw [hb4]; exact hT4) (t139_65 ?_)
      simp (disch := omega) only [vpT, nI_leI, nI_ltI, nI_eq, nleT, nleF, nltT, nltF, neqT, neqF, nI_add, pk_mul, subN, divN, nI_clamp, mI1, wrH, wrM1, wrM2, wrowH, wrowM, bI0, bI1, kIi, kVi, kRi, kLi, kIx, kVx, Option.some.injEq, exists_eq_left', true_and, and_true, true_implies, false_implies, implies_true, not_true_eq_false, not_false_eq_true, true_or, or_true, false_or, or_false, forall_eq, iteT, iteF, hR.1, LB_ hR.b, LT_ hR.t, LT_ hR.s]
      refine sp_holds (n := n) (sn := sn) (dn := dn) (o := mvd (ordN (bd I (r + 2))) a (frz (bd I (r + 2)) n + i)) hR.t hR.b (by rw [hb4]; exact hI) (fun j hj => mvd_lt (fun j hj => (bi_or hI hj).2) ha (by omega) hj) (by rw [hb4]; exact hT4) (t139_74 ?_)
      rw [hb4]
      have hsA : same I I4 (tt r) := (hs.tr (hs3.up fun a h => Or.inl h)).tr (hs4.up fun a h => Or.inr h)
      have e1 : bst (pokS (bd I (r + 2)) n a) (pcoS (bd I (r + 2)) n a) (frz (bd I (r + 2)) n) (i + 1) = if pokS (bd I (r + 2)) n a (frz (bd I (r + 2)) n + i) = true ∧ pcoS (bd I (r + 2)) n a (frz (bd I (r + 2)) n + i) < (bst (pokS (bd I (r + 2)) n a) (pcoS (bd I (r + 2)) n a) (frz (bd I (r + 2)) n) i).2 then (nI (frz (bd I (r + 2)) n + i), pcoS (bd I (r + 2)) n a (frz (bd I (r + 2)) n + i)) else bst (pokS (bd I (r + 2)) n a) (pcoS (bd I (r + 2)) n a) (frz (bd I (r + 2)) n) i := rfl
      simp (disch := omega) only [vpT, nI_leI, nI_ltI, nI_eq, nleT, nleF, nltT, nltF, neqT, neqF, nI_add, pk_mul, subN, divN, nI_clamp, mI1, wrH, wrM1, wrM2, wrowH, wrowM, bI0, bI1, kIi, kVi, kRi, kLi, kIx, kVx, Option.some.injEq, exists_eq_left', true_and, and_true, true_implies, false_implies, implies_true, not_true_eq_false, not_false_eq_true, true_or, or_true, false_or, or_false, forall_eq, iteT, iteF, hR.1, LB_ hR.b, LT_ hR.t, LT_ hR.s]
      refine ⟨fun h5 => ?_, fun h5 => ⟨fun h6 => ?_, fun h6 => ?_⟩⟩
      · rw [if_neg (fun q => by rw [show pokS (bd I (r + 2)) n a (frz (bd I (r + 2)) n + i) = false from h5] at q; cases q.1)] at e1
        exact ih _ _ ⟨I4, _, by rw [e1]; rfl, rfl, hsA⟩
      · rw [if_neg (fun q => Int32.not_lt.mpr h6 q.2)] at e1
        exact ih _ _ ⟨I4, _, by rw [e1]; rfl, rfl, hsA⟩
      · rw [if_pos ⟨btf h5, Int32.not_le.mp h6⟩] at e1
        exact ih _ _ ⟨I4, _, by rw [e1]; rfl, rfl, hsA⟩
    · rintro _ _ ⟨I2, l7, rfl, rfl, hs⟩
      have i0 : I2 (r + 2) 0 = nI n := by rw [hs _ (by omega)]; exact hI.1.1
      refine t139_31 ?_
      simp (disch := omega) only [vpT, nI_leI, nI_ltI, nI_eq, nleT, nleF, nltT, nltF, neqT, neqF, nI_add, pk_mul, subN, divN, nI_clamp, mI1, wrH, wrM1, wrM2, wrowH, wrowM, bI0, bI1, kIi, kVi, kRi, kLi, kIx, kVx, Option.some.injEq, exists_eq_left', true_and, and_true, true_implies, false_implies, implies_true, not_true_eq_false, not_false_eq_true, true_or, or_true, false_or, or_false, forall_eq, iteT, iteF, hR.1, LB_ hR.b, LT_ hR.t, LT_ hR.s, i0]
      rw [if_neg (by omega)] at k
      exact k I2 hs
  · rw [if_pos (by omega)] at k
    exact k I1 (hs1.up fun a h => Or.inr h)
theorem sp_placeToTrade {sh : Nat} (hR : LR L r) (hI : BI (bd I (r + 2)) n sn dn) (hsh : bF (bd I (r + 2)) 11 = nI sh) (hs3 : sh ≤ 3) (k : ∀ I2, same I I2 (tt r) → F (trdR (bd I (r + 2)) n) (L, I2, J, t)) : cal (d + 5) 47 [.ref r] (L, I, J, t) (kI F X) := by
  have hn := hI.1.2
  have hfz := frz_le (S := bd I (r + 2)) (n := n)
  refine e47 (t47_0 ?_)
  simp (disch := omega) only [vpT, nI_leI, nI_ltI, nI_eq, nleT, nleF, nltT, nltF, neqT, neqF, nI_add, pk_mul, subN, divN, nI_clamp, mI1, wrH, wrM1, wrM2, wrowH, wrowM, bI0, bI1, kIi, kVi, kRi, kLi, kIx, kVx, Option.some.injEq, exists_eq_left', true_and, and_true, true_implies, false_implies, implies_true, not_true_eq_false, not_false_eq_true, true_or, or_true, false_or, or_false, forall_eq, iteT, iteF, hR.1, LB_ hR.b, LT_ hR.t, LT_ hR.s]
  refine sp_frozen hR hI fun I1 hs1 hT1 => t47_4 ?_
  have hb1 : bd I1 (r + 2) = bd I (r + 2) := hs1.bd (fun a h1 h2 => by omega)
  simp (disch := omega) only [vpT, nI_leI, nI_ltI, nI_eq, nleT, nleF, nltT, nltF, neqT, neqF, nI_add, pk_mul, subN, divN, nI_clamp, mI1, wrH, wrM1, wrM2, wrowH, wrowM, bI0, bI1, kIi, kVi, kRi, kLi, kIx, kVx, Option.some.injEq, exists_eq_left', true_and, and_true, true_implies, false_implies, implies_true, not_true_eq_false, not_false_eq_true, true_or, or_true, false_or, or_false, forall_eq, iteT, iteF, hR.1, LB_ hR.b, LT_ hR.t, LT_ hR.s]
  refine sp_cost (n := n) (sn := sn) (dn := dn) (o := ordN (bd I (r + 2))) hR.t hR.b (by rw [hb1]; exact hI) (fun j hj => (bi_or hI hj).2) (by rw [hb1]; exact hT1) (t47_13 ?_)
  rw [hb1]
  unfold trdR at k
  refine lg (n := n - 1 - frz (bd I (r + 2)) n) (fun i l h => ∃ I2 l5, l = [some (.ref r), some (.int (nI (frz (bd I (r + 2)) n))), some (.int (trd (tokS (bd I (r + 2)) n) (tcoS (bd I (r + 2)) n) (cst (bd I (r + 2)) (ordN (bd I (r + 2))) (nI 0) n) (frz (bd I (r + 2)) n) i).2), some (.int (trd (tokS (bd I (r + 2)) n) (tcoS (bd I (r + 2)) n) (cst (bd I (r + 2)) (ordN (bd I (r + 2))) (nI 0) n) (frz (bd I (r + 2)) n) i).1), some (.int (nI (frz (bd I (r + 2)) n + i))), l5] ∧ h = (L, I2, J, t) ∧ same I I2 (tt r)) ?_ ?_ (Nat.zero_le _) _ _ ⟨I1, _, rfl, rfl, hs1.up (fun a h => Or.inr h)⟩
  · rintro i hi ih _ _ ⟨I2, l7, rfl, rfl, hs⟩
    have hb : bd I2 (r + 2) = bd I (r + 2) := hs.bd (fun a h1 h2 => by omega)
    have i0 : I2 (r + 2) 0 = nI n := by rw [hs _ (by omega)]; exact hI.1.1
    generalize hZ : trd (tokS (bd I (r + 2)) n) (tcoS (bd I (r + 2)) n) (cst (bd I (r + 2)) (ordN (bd I (r + 2))) (nI 0) n) (frz (bd I (r + 2)) n) i = Z
    refine t47_19 ?_
    simp (disch := omega) only [vpT, nI_leI, nI_ltI, nI_eq, nleT, nleF, nltT, nltF, neqT, neqF, nI_add, pk_mul, subN, divN, nI_clamp, mI1, wrH, wrM1, wrM2, wrowH, wrowM, bI0, bI1, kIi, kVi, kRi, kLi, kIx, kVx, Option.some.injEq, exists_eq_left', true_and, and_true, true_implies, false_implies, implies_true, not_true_eq_false, not_false_eq_true, true_or, or_true, false_or, or_false, forall_eq, iteT, iteF, hR.1, LB_ hR.b, LT_ hR.t, LT_ hR.s, i0]
    refine sp_tryPlace (n := n) (sn := sn) (dn := dn) hR (by rw [hb]; exact hI) (by omega) (by omega) fun I3 hs3 hr3 => t47_43 ?_
    rw [hb] at hr3
    have hr3' : ROW (I3 (r + 1)) (swp (ordN (bd I (r + 2))) (frz (bd I (r + 2)) n + i)) n := fun q hq => by rw [hr3 q hq, mvd_swp]
    have hb3 : bd I3 (r + 2) = bd I (r + 2) := (hs3.bd (fun a h1 h2 => by omega)).trans hb
    have hsl : ∀ j, j < n → swp (ordN (bd I (r + 2))) (frz (bd I (r + 2)) n + i) j < n := fun j hj => swp_lt (fun j hj => (bi_or hI hj).2) (by omega) hj
    simp (disch := omega) only [vpT, nI_leI, nI_ltI, nI_eq, nleT, nleF, nltT, nltF, neqT, neqF, nI_add, pk_mul, subN, divN, nI_clamp, mI1, wrH, wrM1, wrM2, wrowH, wrowM, bI0, bI1, kIi, kVi, kRi, kLi, kIx, kVx, Option.some.injEq, exists_eq_left', true_and, and_true, true_implies, false_implies, implies_true, not_true_eq_false, not_false_eq_true, true_or, or_true, false_or, or_false, forall_eq, iteT, iteF, hR.1, LB_ hR.b, LT_ hR.t, LT_ hR.s]
    refine sp_lay (n := n) (sn := sn) (dn := dn) (o := swp (ordN (bd I (r + 2))) (frz (bd I (r + 2)) n + i)) hR.t hR.b (by omega) (by rw [hb3]; exact hI) hR.1.2.2.2.2.2.1 hR.1.2.2.2.2.2.2.1 (by omega) (fun j hj => ⟨hr3' j hj, hsl j hj⟩) fun I4 hs4 hT4 => t47_54 ?_
    have hb4 : bd I4 (r + 2) = bd I (r + 2) := (hs4.bd (fun a h1 h2 => by omega)).trans hb3
    rw [hb3] at hT4
    simp (disch := omega) only [vpT, nI_leI, nI_ltI, nI_eq, nleT, nleF, nltT, nltF, neqT, neqF, nI_add, pk_mul, subN, divN, nI_clamp, mI1, wrH, wrM1, wrM2, wrowH, wrowM, bI0, bI1, kIi, kVi, kRi, kLi, kIx, kVx, Option.some.injEq, exists_eq_left', true_and, and_true, true_implies, false_implies, implies_true, not_true_eq_false, not_false_eq_true, true_or, or_true, false_or, or_false, forall_eq, iteT, iteF, hR.1, LB_ hR.b, LT_ hR.t, LT_ hR.s]
    refine sp_cost (n := n) (sn := sn) (dn := dn) (o := swp (ordN (bd I (r + 2))) (frz (bd I (r + 2)) n + i)) hR.t hR.b (by rw [hb4]; exact hI) hsl (by rw [hb4]; exact hT4) (t47_58 ?_)
    rw [hb4]
    have hsA : same I I4 (tt r) := (hs.tr (hs3.up fun a h => Or.inl h)).tr (hs4.up fun a h => Or.inr h)
    have e1 : trd (tokS (bd I (r + 2)) n) (tcoS (bd I (r + 2)) n) (cst (bd I (r + 2)) (ordN (bd I (r + 2))) (nI 0) n) (frz (bd I (r + 2)) n) (i + 1) = if tokS (bd I (r + 2)) n (frz (bd I (r + 2)) n + i) = true ∧ tcoS (bd I (r + 2)) n (frz (bd I (r + 2)) n + i) < Z.2 then (nI (frz (bd I (r + 2)) n + i), tcoS (bd I (r + 2)) n (frz (bd I (r + 2)) n + i)) else Z := by rw [← hZ]; rfl
    have e2 : tokS (bd I (r + 2)) n (frz (bd I (r + 2)) n + i) = (hold (bd I (r + 2)) (swp (ordN (bd I (r + 2))) (frz (bd I (r + 2)) n + i)) n && alw (bd I (r + 2)) n (frz (bd I (r + 2)) n) (swp (ordN (bd I (r + 2))) (frz (bd I (r + 2)) n + i))) := rfl
    simp (disch := omega) only [vpT, nI_leI, nI_ltI, nI_eq, nleT, nleF, nltT, nltF, neqT, neqF, nI_add, pk_mul, subN, divN, nI_clamp, mI1, wrH, wrM1, wrM2, wrowH, wrowM, bI0, bI1, kIi, kVi, kRi, kLi, kIx, kVx, Option.some.injEq, exists_eq_left', true_and, and_true, true_implies, false_implies, implies_true, not_true_eq_false, not_false_eq_true, true_or, or_true, false_or, or_false, forall_eq, iteT, iteF, hR.1, LB_ hR.b, LT_ hR.t, LT_ hR.s]
    refine ⟨fun h5 => ?_, fun h5 => ?_⟩
    · rw [if_neg (fun q => Int32.not_lt.mpr h5 q.2)] at e1
      exact ih _ _ ⟨I4, _, by rw [e1]; rfl, rfl, hsA⟩
    refine sp_holds (n := n) (sn := sn) (dn := dn) (o := swp (ordN (bd I (r + 2))) (frz (bd I (r + 2)) n + i)) hR.t hR.b (by rw [hb4]; exact hI) hsl (by rw [hb4]; exact hT4) (t47_73 ?_)
    rw [hb4]
    simp (disch := omega) only [vpT, nI_leI, nI_ltI, nI_eq, nleT, nleF, nltT, nltF, neqT, neqF, nI_add, pk_mul, subN, divN, nI_clamp, mI1, wrH, wrM1, wrM2, wrowH, wrowM, bI0, bI1, kIi, kVi, kRi, kLi, kIx, kVx, Option.some.injEq, exists_eq_left', true_and, and_true, true_implies, false_implies, implies_true, not_true_eq_false, not_false_eq_true, true_or, or_true, false_or, or_false, forall_eq, iteT, iteF, hR.1, LB_ hR.b, LT_ hR.t, LT_ hR.s]
    refine ⟨fun h6 => ?_, fun h6 => ?_⟩
    · rw [h6, Bool.false_and] at e2
      rw [if_neg (fun q => by rw [e2] at q; cases q.1)] at e1
      exact ih _ _ ⟨I4, _, by rw [e1]; rfl, rfl, hsA⟩
    have h6' : hold (bd I (r + 2)) (swp (ordN (bd I (r + 2))) (frz (bd I (r + 2)) n + i)) n = true := by simpa using h6
    rw [h6', Bool.true_and] at e2
    have e4 : I4 (r + 1) = I3 (r + 1) := hs4 _ (by omega)
    refine sp_isAllowed (n := n) (sn := sn) (dn := dn) (sh := sh) (o := swp (ordN (bd I (r + 2))) (frz (bd I (r + 2)) n + i)) hR (by rw [hb4]; exact hI) (by rw [hb4]; exact hsh) (by omega) hfz hR.1.2.2.2.2.2.1 hR.1.2.2.2.2.2.2.1 (fun j hj => ⟨by rw [e4]; exact hr3' j hj, hsl j hj⟩) (t47_85 ?_)
    rw [hb4]
    simp (disch := omega) only [vpT, nI_leI, nI_ltI, nI_eq, nleT, nleF, nltT, nltF, neqT, neqF, nI_add, pk_mul, subN, divN, nI_clamp, mI1, wrH, wrM1, wrM2, wrowH, wrowM, bI0, bI1, kIi, kVi, kRi, kLi, kIx, kVx, Option.some.injEq, exists_eq_left', true_and, and_true, true_implies, false_implies, implies_true, not_true_eq_false, not_false_eq_true, true_or, or_true, false_or, or_false, forall_eq, iteT, iteF, hR.1, LB_ hR.b, LT_ hR.t, LT_ hR.s]
    refine ⟨fun h7 => ?_, fun h7 => ?_⟩
    · rw [h7] at e2
      rw [if_neg (fun q => by rw [e2] at q; cases q.1)] at e1
      exact ih _ _ ⟨I4, _, by rw [e1]; rfl, rfl, hsA⟩
    · rw [if_pos ⟨e2.trans (by simpa using h7), Int32.not_le.mp h5⟩] at e1
      exact ih _ _ ⟨I4, _, by rw [e1]; rfl, rfl, hsA⟩
  · rintro _ _ ⟨I2, l7, rfl, rfl, hs⟩
    have i0 : I2 (r + 2) 0 = nI n := by rw [hs _ (by omega)]; exact hI.1.1
    refine t47_19 ?_
    simp (disch := omega) only [vpT, nI_leI, nI_ltI, nI_eq, nleT, nleF, nltT, nltF, neqT, neqF, nI_add, pk_mul, subN, divN, nI_clamp, mI1, wrH, wrM1, wrM2, wrowH, wrowM, bI0, bI1, kIi, kVi, kRi, kLi, kIx, kVx, Option.some.injEq, exists_eq_left', true_and, and_true, true_implies, false_implies, implies_true, not_true_eq_false, not_false_eq_true, true_or, or_true, false_or, or_false, forall_eq, iteT, iteF, hR.1, LB_ hR.b, LT_ hR.t, LT_ hR.s, i0]
    exact k I2 hs
end RUNWAY3
