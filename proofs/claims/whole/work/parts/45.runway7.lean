/-! The class's runways: waits, holes, slack, by ranks, turned couples. -/
section RUNWAY7
variable {d : Nat} {L : hL} {I : Nat → Nat → Int32} {J : Nat → Nat → Int64} {t : tl} {r b n sn dn : Nat} {F : Int32 → hp → Prop} {G : hp → Prop} {N : Nat → hp → Prop} {X : Nat → hp → Prop}
--facts hR.1, LB_ hR.b, LT_ hR.t, LT_ hR.s
theorem sp_waitsOf {y : Int32} (hR : LR L r) (hI : BI (bd I (r + 2)) n sn dn) (k : ∀ I2, same I I2 (tb r) → F (wts (bd I (r + 2)) (ordN (bd I (r + 2))) y n) (L, I2, J, t)) : cal (d + 5) 170 [.ref r, .int y] (L, I, J, t) (kI F X) := by
  have hn := hI.1.2
  refine e170 (t170_0 ?_)
  simp (disch := omega) only [vpT, nI_leI, nI_ltI, nI_eq, nleT, nleF, nltT, nltF, neqT, neqF, nI_add, pk_mul, subN, divN, nI_clamp, mI1, wrH, wrM1, wrM2, wrowH, wrowM, bI0, bI1, kIi, kVi, kRi, kLi, kIx, kVx, Option.some.injEq, exists_eq_left', true_and, and_true, true_implies, false_implies, implies_true, not_true_eq_false, not_false_eq_true, true_or, or_true, false_or, or_false, forall_eq, iteT, iteF, hR.1, LB_ hR.b, LT_ hR.t, LT_ hR.s]
  refine sp_layPlan hR hI fun I1 hs1 hT1 => t170_4 ?_
  have hb1 : bd I1 (r + 2) = bd I (r + 2) := hs1.bd (fun a h1 h2 => by omega)
  have hI1 : BI (bd I1 (r + 2)) n sn dn := by rw [hb1]; exact hI
  have i0 : I1 (r + 2) 0 = nI n := by rw [hs1 _ (by omega)]; exact hI.1.1
  refine lq (n := n) (fun i => [some (.ref r), some (.int y), some (.int (wts (bd I (r + 2)) (ordN (bd I (r + 2))) y i)), some (.int (nI i))]) (fun i hi ih => t170_9 ?_) (t170_9 ?_)
  · have e6 : I1 (r + 2 + 6) i = nI (ordN (bd I (r + 2)) i) := by rw [hs1 _ (by omega)]; exact (bi_or hI hi).1
    have hol := (bi_or hI hi).2
    simp (disch := omega) only [vpT, nI_leI, nI_ltI, nI_eq, nleT, nleF, nltT, nltF, neqT, neqF, nI_add, pk_mul, subN, divN, nI_clamp, mI1, wrH, wrM1, wrM2, wrowH, wrowM, bI0, bI1, kIi, kVi, kRi, kLi, kIx, kVx, Option.some.injEq, exists_eq_left', true_and, and_true, true_implies, false_implies, implies_true, not_true_eq_false, not_false_eq_true, true_or, or_true, false_or, or_false, forall_eq, iteT, iteF, hR.1, LB_ hR.b, LT_ hR.t, LT_ hR.s, i0, e6]
    refine sp_isOf hR.b (by omega) (t170_37 ?_)
    rw [hb1]
    simp (disch := omega) only [vpT, nI_leI, nI_ltI, nI_eq, nleT, nleF, nltT, nltF, neqT, neqF, nI_add, pk_mul, subN, divN, nI_clamp, mI1, wrH, wrM1, wrM2, wrowH, wrowM, bI0, bI1, kIi, kVi, kRi, kLi, kIx, kVx, Option.some.injEq, exists_eq_left', true_and, and_true, true_implies, false_implies, implies_true, not_true_eq_false, not_false_eq_true, true_or, or_true, false_or, or_false, forall_eq, iteT, iteF, hR.1, LB_ hR.b, LT_ hR.t, LT_ hR.s]
    have e1 : wts (bd I (r + 2)) (ordN (bd I (r + 2))) y (i + 1) = if isof (bd I (r + 2)) y (ordN (bd I (r + 2)) i) then wts (bd I (r + 2)) (ordN (bd I (r + 2))) y i + (slt (bd I (r + 2)) (ordN (bd I (r + 2))) i - bRe (bd I (r + 2)) (ordN (bd I (r + 2)) i)) else wts (bd I (r + 2)) (ordN (bd I (r + 2))) y i := rfl
    refine ⟨fun h => ?_, fun h => ?_⟩
    · rw [e1, h] at ih; exact ih
    · rw [e1, if_pos (btf h)] at ih
      refine sp_waitAt (o := ordN (bd I (r + 2))) hR.t hR.b hI1 (fun j hj => (bi_or hI hj).2) (by rw [hb1]; exact hT1) hi (t170_49 ?_)
      rw [hb1]
      simp (disch := omega) only [vpT, nI_leI, nI_ltI, nI_eq, nleT, nleF, nltT, nltF, neqT, neqF, nI_add, pk_mul, subN, divN, nI_clamp, mI1, wrH, wrM1, wrM2, wrowH, wrowM, bI0, bI1, kIi, kVi, kRi, kLi, kIx, kVx, Option.some.injEq, exists_eq_left', true_and, and_true, true_implies, false_implies, implies_true, not_true_eq_false, not_false_eq_true, true_or, or_true, false_or, or_false, forall_eq, iteT, iteF, hR.1, LB_ hR.b, LT_ hR.t, LT_ hR.s]
      exact ih
  · simp (disch := omega) only [vpT, nI_leI, nI_ltI, nI_eq, nleT, nleF, nltT, nltF, neqT, neqF, nI_add, pk_mul, subN, divN, nI_clamp, mI1, wrH, wrM1, wrM2, wrowH, wrowM, bI0, bI1, kIi, kVi, kRi, kLi, kIx, kVx, Option.some.injEq, exists_eq_left', true_and, and_true, true_implies, false_implies, implies_true, not_true_eq_false, not_false_eq_true, true_or, or_true, false_or, or_false, forall_eq, iteT, iteF, hR.1, LB_ hR.b, LT_ hR.t, LT_ hR.s, i0]
    exact k I1 hs1
theorem sp_longestWaitOf {y : Int32} (hR : LR L r) (hI : BI (bd I (r + 2)) n sn dn) (k : ∀ I2, same I I2 (tb r) → F (lgw (bd I (r + 2)) (ordN (bd I (r + 2))) y n) (L, I2, J, t)) : cal (d + 5) 171 [.ref r, .int y] (L, I, J, t) (kI F X) := by
  have hn := hI.1.2
  refine e171 (t171_0 ?_)
  simp (disch := omega) only [vpT, nI_leI, nI_ltI, nI_eq, nleT, nleF, nltT, nltF, neqT, neqF, nI_add, pk_mul, subN, divN, nI_clamp, mI1, wrH, wrM1, wrM2, wrowH, wrowM, bI0, bI1, kIi, kVi, kRi, kLi, kIx, kVx, Option.some.injEq, exists_eq_left', true_and, and_true, true_implies, false_implies, implies_true, not_true_eq_false, not_false_eq_true, true_or, or_true, false_or, or_false, forall_eq, iteT, iteF, hR.1, LB_ hR.b, LT_ hR.t, LT_ hR.s]
  refine sp_layPlan hR hI fun I1 hs1 hT1 => t171_4 ?_
  have hb1 : bd I1 (r + 2) = bd I (r + 2) := hs1.bd (fun a h1 h2 => by omega)
  have hI1 : BI (bd I1 (r + 2)) n sn dn := by rw [hb1]; exact hI
  have i0 : I1 (r + 2) 0 = nI n := by rw [hs1 _ (by omega)]; exact hI.1.1
  refine lq (n := n) (fun i => [some (.ref r), some (.int y), some (.int (lgw (bd I (r + 2)) (ordN (bd I (r + 2))) y i)), some (.int (nI i))]) (fun i hi ih => t171_9 ?_) (t171_9 ?_)
  · have e6 : I1 (r + 2 + 6) i = nI (ordN (bd I (r + 2)) i) := by rw [hs1 _ (by omega)]; exact (bi_or hI hi).1
    have hol := (bi_or hI hi).2
    simp (disch := omega) only [vpT, nI_leI, nI_ltI, nI_eq, nleT, nleF, nltT, nltF, neqT, neqF, nI_add, pk_mul, subN, divN, nI_clamp, mI1, wrH, wrM1, wrM2, wrowH, wrowM, bI0, bI1, kIi, kVi, kRi, kLi, kIx, kVx, Option.some.injEq, exists_eq_left', true_and, and_true, true_implies, false_implies, implies_true, not_true_eq_false, not_false_eq_true, true_or, or_true, false_or, or_false, forall_eq, iteT, iteF, hR.1, LB_ hR.b, LT_ hR.t, LT_ hR.s, i0, e6]
    refine sp_isOf hR.b (by omega) (t171_37 ?_)
    rw [hb1]
    simp (disch := omega) only [vpT, nI_leI, nI_ltI, nI_eq, nleT, nleF, nltT, nltF, neqT, neqF, nI_add, pk_mul, subN, divN, nI_clamp, mI1, wrH, wrM1, wrM2, wrowH, wrowM, bI0, bI1, kIi, kVi, kRi, kLi, kIx, kVx, Option.some.injEq, exists_eq_left', true_and, and_true, true_implies, false_implies, implies_true, not_true_eq_false, not_false_eq_true, true_or, or_true, false_or, or_false, forall_eq, iteT, iteF, hR.1, LB_ hR.b, LT_ hR.t, LT_ hR.s]
    have e1 : lgw (bd I (r + 2)) (ordN (bd I (r + 2))) y (i + 1) = if isof (bd I (r + 2)) y (ordN (bd I (r + 2)) i) then mx (lgw (bd I (r + 2)) (ordN (bd I (r + 2))) y i) (slt (bd I (r + 2)) (ordN (bd I (r + 2))) i - bRe (bd I (r + 2)) (ordN (bd I (r + 2)) i)) else lgw (bd I (r + 2)) (ordN (bd I (r + 2))) y i := rfl
    refine ⟨fun h => ?_, fun h => ?_⟩
    · rw [e1, h] at ih; exact ih
    · rw [e1, if_pos (btf h)] at ih
      refine sp_waitAt (o := ordN (bd I (r + 2))) hR.t hR.b hI1 (fun j hj => (bi_or hI hj).2) (by rw [hb1]; exact hT1) hi (t171_49 ?_)
      rw [hb1]
      simp (disch := omega) only [vpT, nI_leI, nI_ltI, nI_eq, nleT, nleF, nltT, nltF, neqT, neqF, nI_add, pk_mul, subN, divN, nI_clamp, mI1, wrH, wrM1, wrM2, wrowH, wrowM, bI0, bI1, kIi, kVi, kRi, kLi, kIx, kVx, Option.some.injEq, exists_eq_left', true_and, and_true, true_implies, false_implies, implies_true, not_true_eq_false, not_false_eq_true, true_or, or_true, false_or, or_false, forall_eq, iteT, iteF, hR.1, LB_ hR.b, LT_ hR.t, LT_ hR.s]
      exact ih
  · simp (disch := omega) only [vpT, nI_leI, nI_ltI, nI_eq, nleT, nleF, nltT, nltF, neqT, neqF, nI_add, pk_mul, subN, divN, nI_clamp, mI1, wrH, wrM1, wrM2, wrowH, wrowM, bI0, bI1, kIi, kVi, kRi, kLi, kIx, kVx, Option.some.injEq, exists_eq_left', true_and, and_true, true_implies, false_implies, implies_true, not_true_eq_false, not_false_eq_true, true_or, or_true, false_or, or_false, forall_eq, iteT, iteF, hR.1, LB_ hR.b, LT_ hR.t, LT_ hR.s, i0]
    exact k I1 hs1
theorem sp_pushedBy {z y : Nat} {s x : Int32} (hR : LR L r) (hz : z < 8) (hy : y < 8) (k : F (pby (bd I (r + 2)) z s y x) (L, I, J, t)) : cal (d + 2) 165 [.ref r, .int (nI z), .int s, .int (nI y), .int x] (L, I, J, t) (kI F X) := by
  refine e165 (t165_0 ?_)
  simp (disch := omega) only [vpT, nI_leI, nI_ltI, nI_eq, nleT, nleF, nltT, nltF, neqT, neqF, nI_add, pk_mul, subN, divN, nI_clamp, mI1, wrH, wrM1, wrM2, wrowH, wrowM, bI0, bI1, kIi, kVi, kRi, kLi, kIx, kVx, Option.some.injEq, exists_eq_left', true_and, and_true, true_implies, false_implies, implies_true, not_true_eq_false, not_false_eq_true, true_or, or_true, false_or, or_false, forall_eq, iteT, iteF, hR.1, LB_ hR.b, LT_ hR.t, LT_ hR.s]
  unfold pby at k
  refine ⟨fun h => ?_, fun h => ?_⟩
  · rw [if_pos h] at k
    refine sp_gapOf hR.b hy hz (t165_34 ?_)
    simp (disch := omega) only [vpT, nI_leI, nI_ltI, nI_eq, nleT, nleF, nltT, nltF, neqT, neqF, nI_add, pk_mul, subN, divN, nI_clamp, mI1, wrH, wrM1, wrM2, wrowH, wrowM, bI0, bI1, kIi, kVi, kRi, kLi, kIx, kVx, Option.some.injEq, exists_eq_left', true_and, and_true, true_implies, false_implies, implies_true, not_true_eq_false, not_false_eq_true, true_or, or_true, false_or, or_false, forall_eq, iteT, iteF, hR.1, LB_ hR.b, LT_ hR.t, LT_ hR.s]
    refine ⟨fun h2 => ?_, fun h2 => ?_⟩
    · rw [if_pos h2] at k; exact k
    · rw [if_neg h2] at k; exact k
  · rw [if_neg h] at k
    refine sp_gapOf hR.b hz hy (t165_18 ?_)
    simp (disch := omega) only [vpT, nI_leI, nI_ltI, nI_eq, nleT, nleF, nltT, nltF, neqT, neqF, nI_add, pk_mul, subN, divN, nI_clamp, mI1, wrH, wrM1, wrM2, wrowH, wrowM, bI0, bI1, kIi, kVi, kRi, kLi, kIx, kVx, Option.some.injEq, exists_eq_left', true_and, and_true, true_implies, false_implies, implies_true, not_true_eq_false, not_false_eq_true, true_or, or_true, false_or, or_false, forall_eq, iteT, iteF, hR.1, LB_ hR.b, LT_ hR.t, LT_ hR.s]
    exact k
theorem sp_pushed {y : Nat} {x : Int32} (hR : LR L r) (hI : BI (bd I (r + 2)) n sn dn) (hT : Tab I (r + 23) (bd I (r + 2)) (ordN (bd I (r + 2))) n) (hy : y < 8) (k : F (pshP (bd I (r + 2)) (ordN (bd I (r + 2))) y dn x n) (L, I, J, t)) : cal (d + 3) 164 [.ref r, .int (nI y), .int x] (L, I, J, t) (kI F X) := by
  have hn := hI.1.2
  have hd20 := hI.2.2.1.2
  have i0 : I (r + 2) 0 = nI n := hI.1.1
  have i14 : I (r + 2) 14 = nI dn := hI.2.2.1.1
  have plan : Wp (cal (d + 2)) kc_164 [] (kI F X) (60, [some (.ref r), some (.int (nI y)), some (.int x), some (.int (pshP (bd I (r + 2)) (ordN (bd I (r + 2))) y dn x 0)), some (.int (nI 0))], [], (L, I, J, t)) := by
    refine lq (n := n) (fun i => [some (.ref r), some (.int (nI y)), some (.int x), some (.int (pshP (bd I (r + 2)) (ordN (bd I (r + 2))) y dn x i)), some (.int (nI i))]) (fun i hi ih => t164_60 ?_) (t164_60 ?_)
    · have e6 : I (r + 2 + 6) i = nI (ordN (bd I (r + 2)) i) := (bi_or hI hi).1
      have hol := (bi_or hI hi).2
      obtain ⟨z, hz, ez⟩ := hI.2.2.2.1 _ hol
      have ez1 : I (r + 2 + 1) (ordN (bd I (r + 2)) i) = nI z := ez
      simp (disch := omega) only [vpT, nI_leI, nI_ltI, nI_eq, nleT, nleF, nltT, nltF, neqT, neqF, nI_add, pk_mul, subN, divN, nI_clamp, mI1, wrH, wrM1, wrM2, wrowH, wrowM, bI0, bI1, kIi, kVi, kRi, kLi, kIx, kVx, Option.some.injEq, exists_eq_left', true_and, and_true, true_implies, false_implies, implies_true, not_true_eq_false, not_false_eq_true, true_or, or_true, false_or, or_false, forall_eq, iteT, iteF, hR.1, LB_ hR.b, LT_ hR.t, LT_ hR.s, i0, e6, ez1, (hT.1 i hi).2]
      refine sp_pushedBy hR hz hy (t164_106 ?_)
      simp (disch := omega) only [vpT, nI_leI, nI_ltI, nI_eq, nleT, nleF, nltT, nltF, neqT, neqF, nI_add, pk_mul, subN, divN, nI_clamp, mI1, wrH, wrM1, wrM2, wrowH, wrowM, bI0, bI1, kIi, kVi, kRi, kLi, kIx, kVx, Option.some.injEq, exists_eq_left', true_and, and_true, true_implies, false_implies, implies_true, not_true_eq_false, not_false_eq_true, true_or, or_true, false_or, or_false, forall_eq, iteT, iteF, hR.1, LB_ hR.b, LT_ hR.t, LT_ hR.s]
      rw [show pshP (bd I (r + 2)) (ordN (bd I (r + 2))) y dn x (i + 1) = pby (bd I (r + 2)) z (slt (bd I (r + 2)) (ordN (bd I (r + 2))) i) y (pshP (bd I (r + 2)) (ordN (bd I (r + 2))) y dn x i) by
        show pby _ (bSo (bd I (r + 2)) (ordN (bd I (r + 2)) i)).toNatClampNeg _ _ _ = _
        rw [ez, nI_clamp (by omega)]] at ih
      exact ih
    · simp (disch := omega) only [vpT, nI_leI, nI_ltI, nI_eq, nleT, nleF, nltT, nltF, neqT, neqF, nI_add, pk_mul, subN, divN, nI_clamp, mI1, wrH, wrM1, wrM2, wrowH, wrowM, bI0, bI1, kIi, kVi, kRi, kLi, kIx, kVx, Option.some.injEq, exists_eq_left', true_and, and_true, true_implies, false_implies, implies_true, not_true_eq_false, not_false_eq_true, true_or, or_true, false_or, or_false, forall_eq, iteT, iteF, hR.1, LB_ hR.b, LT_ hR.t, LT_ hR.s, i0]
      exact k
  refine e164 (t164_0 ?_)
  simp (disch := omega) only [vpT, nI_leI, nI_ltI, nI_eq, nleT, nleF, nltT, nltF, neqT, neqF, nI_add, pk_mul, subN, divN, nI_clamp, mI1, wrH, wrM1, wrM2, wrowH, wrowM, bI0, bI1, kIi, kVi, kRi, kLi, kIx, kVx, Option.some.injEq, exists_eq_left', true_and, and_true, true_implies, false_implies, implies_true, not_true_eq_false, not_false_eq_true, true_or, or_true, false_or, or_false, forall_eq, iteT, iteF, hR.1, LB_ hR.b, LT_ hR.t, LT_ hR.s]
  refine sp_open hR.b hI (t164_8 ?_)
  refine lq (n := dn) (fun i => [some (.ref r), some (.int (nI y)), some (.int x), some (.int (pshD (bd I (r + 2)) y x i)), some (.int (nI i))]) (fun i hi ih => t164_12 ?_) (t164_12 ?_)
  · obtain ⟨z, hz, ez⟩ := hI.2.2.2.2.2 i hi
    have ez1 : I (r + 2 + 10) i = nI z := ez
    simp (disch := omega) only [vpT, nI_leI, nI_ltI, nI_eq, nleT, nleF, nltT, nltF, neqT, neqF, nI_add, pk_mul, subN, divN, nI_clamp, mI1, wrH, wrM1, wrM2, wrowH, wrowM, bI0, bI1, kIi, kVi, kRi, kLi, kIx, kVx, Option.some.injEq, exists_eq_left', true_and, and_true, true_implies, false_implies, implies_true, not_true_eq_false, not_false_eq_true, true_or, or_true, false_or, or_false, forall_eq, iteT, iteF, hR.1, LB_ hR.b, LT_ hR.t, LT_ hR.s, i14, ez1]
    refine sp_pushedBy hR hz hy (t164_50 ?_)
    simp (disch := omega) only [vpT, nI_leI, nI_ltI, nI_eq, nleT, nleF, nltT, nltF, neqT, neqF, nI_add, pk_mul, subN, divN, nI_clamp, mI1, wrH, wrM1, wrM2, wrowH, wrowM, bI0, bI1, kIi, kVi, kRi, kLi, kIx, kVx, Option.some.injEq, exists_eq_left', true_and, and_true, true_implies, false_implies, implies_true, not_true_eq_false, not_false_eq_true, true_or, or_true, false_or, or_false, forall_eq, iteT, iteF, hR.1, LB_ hR.b, LT_ hR.t, LT_ hR.s]
    rw [show pshD (bd I (r + 2)) y x (i + 1) = pby (bd I (r + 2)) z (bDS (bd I (r + 2)) i) y (pshD (bd I (r + 2)) y x i) by
      show pby _ (bDo (bd I (r + 2)) i).toNatClampNeg _ _ _ = _
      rw [ez, nI_clamp (by omega)]] at ih
    exact ih
  · simp (disch := omega) only [vpT, nI_leI, nI_ltI, nI_eq, nleT, nleF, nltT, nltF, neqT, neqF, nI_add, pk_mul, subN, divN, nI_clamp, mI1, wrH, wrM1, wrM2, wrowH, wrowM, bI0, bI1, kIi, kVi, kRi, kLi, kIx, kVx, Option.some.injEq, exists_eq_left', true_and, and_true, true_implies, false_implies, implies_true, not_true_eq_false, not_false_eq_true, true_or, or_true, false_or, or_false, forall_eq, iteT, iteF, hR.1, LB_ hR.b, LT_ hR.t, LT_ hR.s, i14]
    exact plan
theorem sp_holeFor {y : Nat} {x : Int32} (hR : LR L r) (hI : BI (bd I (r + 2)) n sn dn) (hy : y < 8) (k : ∀ I2, same I I2 (tb r) → F (hol (fun x => pshP (bd I (r + 2)) (ordN (bd I (r + 2))) y dn x n) 2000 (mx x (bF (bd I (r + 2)) 13))) (L, I2, J, t)) : cal (d + 5) 163 [.ref r, .int (nI y), .int x] (L, I, J, t) (kI F X) := by
  refine e163 (t163_0 ?_)
  simp (disch := omega) only [vpT, nI_leI, nI_ltI, nI_eq, nleT, nleF, nltT, nltF, neqT, neqF, nI_add, pk_mul, subN, divN, nI_clamp, mI1, wrH, wrM1, wrM2, wrowH, wrowM, bI0, bI1, kIi, kVi, kRi, kLi, kIx, kVx, Option.some.injEq, exists_eq_left', true_and, and_true, true_implies, false_implies, implies_true, not_true_eq_false, not_false_eq_true, true_or, or_true, false_or, or_false, forall_eq, iteT, iteF, hR.1, LB_ hR.b, LT_ hR.t, LT_ hR.s]
  refine sp_layPlan hR hI fun I1 hs1 hT1 => t163_4 ?_
  have hb1 : bd I1 (r + 2) = bd I (r + 2) := hs1.bd (fun a h1 h2 => by omega)
  have hI1 : BI (bd I1 (r + 2)) n sn dn := by rw [hb1]; exact hI
  have i13 : I1 (r + 2) 13 = bF (bd I (r + 2)) 13 := by rw [hs1 _ (by omega)]; rfl
  simp (disch := omega) only [vpT, nI_leI, nI_ltI, nI_eq, nleT, nleF, nltT, nltF, neqT, neqF, nI_add, pk_mul, subN, divN, nI_clamp, mI1, wrH, wrM1, wrM2, wrowH, wrowM, bI0, bI1, kIi, kVi, kRi, kLi, kIx, kVx, Option.some.injEq, exists_eq_left', true_and, and_true, true_implies, false_implies, implies_true, not_true_eq_false, not_false_eq_true, true_or, or_true, false_or, or_false, forall_eq, iteT, iteF, hR.1, LB_ hR.b, LT_ hR.t, LT_ hR.s, i13]
  replace k := k I1 hs1
  have main : ∀ m, m ≤ 2000 → ∀ x3 l5, F (hol (fun x => pshP (bd I (r + 2)) (ordN (bd I (r + 2))) y dn x n) m x3) (L, I1, J, t) → Wp (cal (d + 4)) kc_163 [] (kI F X) (20, [some (.ref r), some (.int (nI y)), some (.int x), some (.int x3), some (.int (nI (2000 - m))), l5], [], (L, I1, J, t)) := by
    intro m
    induction m with
    | zero =>
      intro _ x3 l5 kk
      refine t163_20 ?_
      simp (disch := omega) only [vpT, nI_leI, nI_ltI, nI_eq, nleT, nleF, nltT, nltF, neqT, neqF, nI_add, pk_mul, subN, divN, nI_clamp, mI1, wrH, wrM1, wrM2, wrowH, wrowM, bI0, bI1, kIi, kVi, kRi, kLi, kIx, kVx, Option.some.injEq, exists_eq_left', true_and, and_true, true_implies, false_implies, implies_true, not_true_eq_false, not_false_eq_true, true_or, or_true, false_or, or_false, forall_eq, iteT, iteF, hR.1, LB_ hR.b, LT_ hR.t, LT_ hR.s]
      exact kk
    | succ m ih =>
      intro hm x3 l5 kk
      refine t163_20 ?_
      simp (disch := omega) only [vpT, nI_leI, nI_ltI, nI_eq, nleT, nleF, nltT, nltF, neqT, neqF, nI_add, pk_mul, subN, divN, nI_clamp, mI1, wrH, wrM1, wrM2, wrowH, wrowM, bI0, bI1, kIi, kVi, kRi, kLi, kIx, kVx, Option.some.injEq, exists_eq_left', true_and, and_true, true_implies, false_implies, implies_true, not_true_eq_false, not_false_eq_true, true_or, or_true, false_or, or_false, forall_eq, iteT, iteF, hR.1, LB_ hR.b, LT_ hR.t, LT_ hR.s]
      unfold hol at kk
      refine ⟨fun h => ?_, fun h => ?_⟩
      · rw [if_pos h] at kk; exact kk
      · rw [if_neg h] at kk
        refine sp_pushed hR hI1 (by rw [hb1]; exact hT1) hy (t163_41 ?_)
        rw [hb1]
        simp (disch := omega) only [vpT, nI_leI, nI_ltI, nI_eq, nleT, nleF, nltT, nltF, neqT, neqF, nI_add, pk_mul, subN, divN, nI_clamp, mI1, wrH, wrM1, wrM2, wrowH, wrowM, bI0, bI1, kIi, kVi, kRi, kLi, kIx, kVx, Option.some.injEq, exists_eq_left', true_and, and_true, true_implies, false_implies, implies_true, not_true_eq_false, not_false_eq_true, true_or, or_true, false_or, or_false, forall_eq, iteT, iteF, hR.1, LB_ hR.b, LT_ hR.t, LT_ hR.s]
        refine ⟨fun h2 => ?_, fun h2 => ?_⟩
        · rw [if_neg h2] at kk
          have := ih (by omega) _ (some (.int (pshP (bd I (r + 2)) (ordN (bd I (r + 2))) y dn x3 n))) kk
          rw [show 2000 - m = 2000 - (m + 1) + 1 by omega] at this
          exact this
        · rw [if_pos h2] at kk; exact kk
  exact main 2000 (Nat.le_refl _) _ _ k
theorem sp_useUpSlack {c p : Nat} (hR : LR L r) (hI : BI (bd I (r + 2)) n sn dn) (hP : PI (bd I (r + 2)) n) (hp : p < n) (hc : ordN (bd I (r + 2)) p = c) (k : ∀ I2, same I I2 (fun a => a = r + 2 + 2 ∨ tb r a) → F (slkR (bd I (r + 2)) n p) (L, I2, J, t)) : cal (d + 6) 94 [.ref r, .int (nI c)] (L, I, J, t) (kI F X) := by
  have hn := hI.1.2
  have hcn : c < n := by rw [← hc]; exact (bi_or hI hp).2
  have hol : ∀ j, j < n → ordN (bd I (r + 2)) j < n := fun j hj => (bi_or hI hj).2
  refine e94 (t94_0 ?_)
  simp (disch := omega) only [vpT, nI_leI, nI_ltI, nI_eq, nleT, nleF, nltT, nltF, neqT, neqF, nI_add, pk_mul, subN, divN, nI_clamp, mI1, wrH, wrM1, wrM2, wrowH, wrowM, bI0, bI1, kIi, kVi, kRi, kLi, kIx, kVx, Option.some.injEq, exists_eq_left', true_and, and_true, true_implies, false_implies, implies_true, not_true_eq_false, not_false_eq_true, true_or, or_true, false_or, or_false, forall_eq, iteT, iteF, hR.1, LB_ hR.b, LT_ hR.t, LT_ hR.s]
  refine sp_slotOf hR hI hP hp hc fun I1 hs1 hT1 => t94_5 ?_
  have hb1 : bd I1 (r + 2) = bd I (r + 2) := hs1.bd (fun a h1 h2 => by omega)
  have hI1 : BI (bd I1 (r + 2)) n sn dn := by rw [hb1]; exact hI
  simp (disch := omega) only [vpT, nI_leI, nI_ltI, nI_eq, nleT, nleF, nltT, nltF, neqT, neqF, nI_add, pk_mul, subN, divN, nI_clamp, mI1, wrH, wrM1, wrM2, wrowH, wrowM, bI0, bI1, kIi, kVi, kRi, kLi, kIx, kVx, Option.some.injEq, exists_eq_left', true_and, and_true, true_implies, false_implies, implies_true, not_true_eq_false, not_false_eq_true, true_or, or_true, false_or, or_false, forall_eq, iteT, iteF, hR.1, LB_ hR.b, LT_ hR.t, LT_ hR.s]
  refine sp_holds (o := ordN (bd I (r + 2))) hR.t hR.b hI1 hol (by rw [hb1]; exact hT1) (t94_13 ?_)
  rw [hb1]
  simp (disch := omega) only [vpT, nI_leI, nI_ltI, nI_eq, nleT, nleF, nltT, nltF, neqT, neqF, nI_add, pk_mul, subN, divN, nI_clamp, mI1, wrH, wrM1, wrM2, wrowH, wrowM, bI0, bI1, kIi, kVi, kRi, kLi, kIx, kVx, Option.some.injEq, exists_eq_left', true_and, and_true, true_implies, false_implies, implies_true, not_true_eq_false, not_false_eq_true, true_or, or_true, false_or, or_false, forall_eq, iteT, iteF, hR.1, LB_ hR.b, LT_ hR.t, LT_ hR.s]
  unfold slkR at k
  rw [hc] at k
  refine ⟨fun h => ?_, fun h => ?_⟩
  · rw [if_pos (btf h)] at k
    have main : ∀ m, m ≤ 99 → ∀ I2, same I I2 (fun a => a = r + 2 + 2 ∨ tb r a) → (∀ x, setRe (bd I2 (r + 2)) c x = setRe (bd I (r + 2)) c x) → (∀ I3, same I I3 (fun a => a = r + 2 + 2 ∨ tb r a) → F (slk (fun e => hold (setRe (bd I (r + 2)) c (slt (bd I (r + 2)) (ordN (bd I (r + 2))) p + nI e)) (ordN (bd I (r + 2))) n) m) (L, I3, J, t)) → Wp (cal (d + 5)) kc_94 [] (kI F X) (21, [some (.ref r), some (.int (nI c)), some (.int (slt (bd I (r + 2)) (ordN (bd I (r + 2))) p)), some (.int (nI m))], [], (L, I2, J, t)) := by
      intro m
      induction m with
      | zero =>
        intro _ I2 hs2 _ kk
        refine t94_21 ?_
        simp (disch := omega) only [vpT, nI_leI, nI_ltI, nI_eq, nleT, nleF, nltT, nltF, neqT, neqF, nI_add, pk_mul, subN, divN, nI_clamp, mI1, wrH, wrM1, wrM2, wrowH, wrowM, bI0, bI1, kIi, kVi, kRi, kLi, kIx, kVx, Option.some.injEq, exists_eq_left', true_and, and_true, true_implies, false_implies, implies_true, not_true_eq_false, not_false_eq_true, true_or, or_true, false_or, or_false, forall_eq, iteT, iteF, hR.1, LB_ hR.b, LT_ hR.t, LT_ hR.s]
        exact kk I2 hs2
      | succ m ih =>
        intro hm I2 hs2 hse kk
        refine t94_21 ?_
        simp (disch := omega) only [vpT, nI_leI, nI_ltI, nI_eq, nleT, nleF, nltT, nltF, neqT, neqF, nI_add, pk_mul, subN, divN, nI_clamp, mI1, wrH, wrM1, wrM2, wrowH, wrowM, bI0, bI1, kIi, kVi, kRi, kLi, kIx, kVx, Option.some.injEq, exists_eq_left', true_and, and_true, true_implies, false_implies, implies_true, not_true_eq_false, not_false_eq_true, true_or, or_true, false_or, or_false, forall_eq, iteT, iteF, hR.1, LB_ hR.b, LT_ hR.t, LT_ hR.s]
        have hB3 : bd (wr I2 (r + 2 + 2) c (slt (bd I (r + 2)) (ordN (bd I (r + 2))) p + nI (m + 1))) (r + 2) = setRe (bd I (r + 2)) c (slt (bd I (r + 2)) (ordN (bd I (r + 2))) p + nI (m + 1)) := setRe_wr.trans (hse _)
        generalize hx : slt (bd I (r + 2)) (ordN (bd I (r + 2))) p + nI (m + 1) = x at hB3
        have hI3 : BI (bd (wr I2 (r + 2 + 2) c x) (r + 2)) n sn dn := by rw [hB3]; exact hI
        have ho3 : ordN (setRe (bd I (r + 2)) c x) = ordN (bd I (r + 2)) := rfl
        refine sp_layPlan hR hI3 fun I4 hs4 hT4 => t94_41 ?_
        have hb4 : bd I4 (r + 2) = setRe (bd I (r + 2)) c x := (hs4.bd (fun a h1 h2 => by omega)).trans hB3
        simp (disch := omega) only [vpT, nI_leI, nI_ltI, nI_eq, nleT, nleF, nltT, nltF, neqT, neqF, nI_add, pk_mul, subN, divN, nI_clamp, mI1, wrH, wrM1, wrM2, wrowH, wrowM, bI0, bI1, kIi, kVi, kRi, kLi, kIx, kVx, Option.some.injEq, exists_eq_left', true_and, and_true, true_implies, false_implies, implies_true, not_true_eq_false, not_false_eq_true, true_or, or_true, false_or, or_false, forall_eq, iteT, iteF, hR.1, LB_ hR.b, LT_ hR.t, LT_ hR.s]
        refine sp_holds (n := n) (sn := sn) (dn := dn) (o := ordN (bd I (r + 2))) hR.t hR.b (by rw [hb4]; exact hI) hol (by rw [hb4]; rw [hB3, ho3] at hT4; exact hT4) (t94_44 ?_)
        rw [hb4]
        simp (disch := omega) only [vpT, nI_leI, nI_ltI, nI_eq, nleT, nleF, nltT, nltF, neqT, neqF, nI_add, pk_mul, subN, divN, nI_clamp, mI1, wrH, wrM1, wrM2, wrowH, wrowM, bI0, bI1, kIi, kVi, kRi, kLi, kIx, kVx, Option.some.injEq, exists_eq_left', true_and, and_true, true_implies, false_implies, implies_true, not_true_eq_false, not_false_eq_true, true_or, or_true, false_or, or_false, forall_eq, iteT, iteF, hR.1, LB_ hR.b, LT_ hR.t, LT_ hR.s]
        have hs5 : same I I4 (fun a => a = r + 2 + 2 ∨ tb r a) := fun a ha => by
          rw [hs4 a (fun q => ha (Or.inr q)), wrM1 (fun q => ha (Or.inl q))]
          exact hs2 a ha
        have e1 : slk (fun e => hold (setRe (bd I (r + 2)) c (slt (bd I (r + 2)) (ordN (bd I (r + 2))) p + nI e)) (ordN (bd I (r + 2))) n) (m + 1) = if hold (setRe (bd I (r + 2)) c x) (ordN (bd I (r + 2))) n then nI (m + 1) else slk (fun e => hold (setRe (bd I (r + 2)) c (slt (bd I (r + 2)) (ordN (bd I (r + 2))) p + nI e)) (ordN (bd I (r + 2))) n) m := by rw [← hx]; rfl
        refine ⟨fun h5 => ?_, fun h5 => ?_⟩
        · rw [e1, h5] at kk
          exact ih (by omega) I4 hs5 (fun w => by rw [hb4, setRe_2]) kk
        · rw [e1, if_pos (btf h5)] at kk
          exact kk I4 hs5
    exact main 99 (Nat.le_refl _) I1 (hs1.up fun a h => Or.inr h) (fun w => by rw [hb1]) k
  · rw [h] at k
    exact k I1 (hs1.up fun a h => Or.inr h)
end RUNWAY7
