/-! Holes, both ways. -/
/-- far enough apart: of sort y at t, from one of sort z with slot s -/
def apt (S : BS) (y z : Nat) (t s : Int32) : Bool := if t < s then !decide (s - t < bGa S (y * 8 + z)) else !decide (t - s < bGa S (z * 8 + y))
def isH (S : BS) (o : Nat → Nat) (y dn n : Nat) (t : Int32) : Bool := decide (opn S t = t) && (allB (fun i => apt S y (bDo S (dn - 1 - i)).toNatClampNeg t (bDS S (dn - 1 - i))) dn && allB (fun k => apt S y (bSo S (o k)).toNatClampNeg t (slt S o k)) n)
def scn (P : Nat → Bool) : Nat → Nat → Int32
  | 0, _ => -1
  | f + 1, k => if P k then nI k else scn P f (k + 1)
theorem hol_scn {f : Int32 → Int32} {P : Nat → Bool} (h : ∀ k, k ≤ 1999 → ∃ k', k' < 2000000 ∧ f (nI k) = nI k' ∧ k ≤ k' ∧ (k' = k → P k = true) ∧ ∀ j, k ≤ j → j < k' → j ≤ 1999 → P j = false) : ∀ M k, 2000 ≤ M + k → k < 2000000 → hol f M (nI k) = scn P (2000 - k) k := by
  have skipS : ∀ m k, (∀ j, k ≤ j → j < k + m → j ≤ 1999 → P j = false) → scn P (2000 - k) k = scn P (2000 - (k + m)) (k + m) := by
    intro m
    induction m with
    | zero => intro k _; rfl
    | succ m ih =>
      intro k hk
      by_cases hk2 : k ≤ 1999
      · have e : scn P (2000 - k) k = if P k then nI k else scn P (2000 - (k + 1)) (k + 1) := by rw [show 2000 - k = 2000 - (k + 1) + 1 by omega]; rfl
        rw [e, hk k (Nat.le_refl _) (by omega) hk2]
        have := ih (k + 1) (fun j q1 q2 => hk j (by omega) (by omega))
        rw [show k + 1 + m = k + (m + 1) by omega] at this
        exact this
      · rw [show 2000 - k = 0 by omega, show 2000 - (k + (m + 1)) = 0 by omega]
        rfl
  intro M
  induction M with
  | zero =>
    intro k hk _
    rw [show 2000 - k = 0 by omega]
    rfl
  | succ M ih =>
    intro k hk hkb
    unfold hol
    by_cases hk2 : k ≤ 1999
    · rw [if_neg (fun q => by rw [nI_ltI (by omega) (by omega)] at q; omega)]
      obtain ⟨k', h1, h2, h3, h4, h5⟩ := h k hk2
      rw [h2]
      by_cases e : k' = k
      · rw [e, if_pos rfl, show 2000 - k = 2000 - (k + 1) + 1 by omega]
        show _ = if P k then nI k else _
        rw [if_pos (h4 e)]
      · rw [if_neg (fun q => e ((nI_eq (by omega) (by omega)).mp q)), ih k' (by omega) (by omega)]
        have := skipS (k' - k) k (fun j q1 q2 q3 => h5 j q1 (by omega) q3)
        rw [show k + (k' - k) = k' by omega] at this
        exact this.symm
    · rw [if_pos (nI_lt (by omega) (by omega)), show 2000 - k = 0 by omega]
      rfl
section MHOLE
variable {d : Nat} {L : hL} {I : Nat → Nat → Int32} {J : Nat → Nat → Int64} {t : tl} {m n sn dn T : Nat} {S : BS} {o : Nat → Nat} {F : Int32 → hp → Prop} {X : Nat → hp → Prop} {x s : Int32}
--facts LM_ hM
theorem mp_isApart {y z : Nat} (hM : LM L m) (hR : Rel (I (m + 1)) S n sn dn) (hy : y < 8) (hz : z < 8) (k : F (bI (apt S y z x s)) (L, I, J, t)) : cal (d + 2) 257 [.ref m, .int (nI y), .int x, .int (nI z), .int s] (L, I, J, t) (kI F X) := by
  refine e257 (t257_0 ?_)
  simp (disch := omega) only [vpT, nI_leI, nI_ltI, nI_eq, nleT, nleF, nltT, nltF, neqT, neqF, nI_add, pk_mul, subN, divN, nI_clamp, mI1, wrH, wrM1, wrM2, wrowH, wrowM, bI0, bI1, kIi, kVi, kRi, kLi, kIx, kVx, Option.some.injEq, exists_eq_left', true_and, and_true, true_implies, false_implies, implies_true, not_true_eq_false, not_false_eq_true, true_or, or_true, false_or, or_false, forall_eq, iteT, iteF, LM_ hM]
  unfold apt at k
  refine ⟨fun h => ?_, fun h => ?_⟩
  · rw [if_pos h] at k
    refine mp_gapOf hM hR hy hz (t257_37 ?_)
    simp (disch := omega) only [vpT, nI_leI, nI_ltI, nI_eq, nleT, nleF, nltT, nltF, neqT, neqF, nI_add, pk_mul, subN, divN, nI_clamp, mI1, wrH, wrM1, wrM2, wrowH, wrowM, bI0, bI1, kIi, kVi, kRi, kLi, kIx, kVx, Option.some.injEq, exists_eq_left', true_and, and_true, true_implies, false_implies, implies_true, not_true_eq_false, not_false_eq_true, true_or, or_true, false_or, or_false, forall_eq, iteT, iteF, LM_ hM]
    refine ⟨fun q => ?_, fun q => ?_⟩
    · rw [decide_eq_true q] at k; exact k
    · rw [decide_eq_false q] at k; exact k
  · rw [if_neg h] at k
    refine mp_gapOf hM hR hz hy (t257_16 ?_)
    simp (disch := omega) only [vpT, nI_leI, nI_ltI, nI_eq, nleT, nleF, nltT, nltF, neqT, neqF, nI_add, pk_mul, subN, divN, nI_clamp, mI1, wrH, wrM1, wrM2, wrowH, wrowM, bI0, bI1, kIi, kVi, kRi, kLi, kIx, kVx, Option.some.injEq, exists_eq_left', true_and, and_true, true_implies, false_implies, implies_true, not_true_eq_false, not_false_eq_true, true_or, or_true, false_or, or_false, forall_eq, iteT, iteF, LM_ hM]
    refine ⟨fun q => ?_, fun q => ?_⟩
    · rw [decide_eq_true q] at k; exact k
    · rw [decide_eq_false q] at k; exact k
theorem mp_isHole {y : Nat} (hM : LM L m) (hR : Rel (I (m + 1)) S n sn dn) (hI : BI S n sn dn) (ho : ∀ j, j < n → o j < n) (hL : ML I m S o n) (hy : y < 8) (k : F (bI (isH S o y dn n x)) (L, I, J, t)) : cal (d + 3) 256 [.ref m, .int (nI y), .int x] (L, I, J, t) (kI F X) := by
  have hn := hI.1.2
  have hd20 := hI.2.2.1.2
  have hdn : I (m + 1) 5 = nI dn := hR.1.2.2.2.2.2
  refine e256 (t256_0 ?_)
  simp (disch := omega) only [vpT, nI_leI, nI_ltI, nI_eq, nleT, nleF, nltT, nltF, neqT, neqF, nI_add, pk_mul, subN, divN, nI_clamp, mI1, wrH, wrM1, wrM2, wrowH, wrowM, bI0, bI1, kIi, kVi, kRi, kLi, kIx, kVx, Option.some.injEq, exists_eq_left', true_and, and_true, true_implies, false_implies, implies_true, not_true_eq_false, not_false_eq_true, true_or, or_true, false_or, or_false, forall_eq, iteT, iteF, LM_ hM]
  refine mp_openFrom hM hR hI (t256_5 ?_)
  simp (disch := omega) only [vpT, nI_leI, nI_ltI, nI_eq, nleT, nleF, nltT, nltF, neqT, neqF, nI_add, pk_mul, subN, divN, nI_clamp, mI1, wrH, wrM1, wrM2, wrowH, wrowM, bI0, bI1, kIi, kVi, kRi, kLi, kIx, kVx, Option.some.injEq, exists_eq_left', true_and, and_true, true_implies, false_implies, implies_true, not_true_eq_false, not_false_eq_true, true_or, or_true, false_or, or_false, forall_eq, iteT, iteF, LM_ hM]
  unfold isH at k
  refine ⟨fun h => ?_, fun h => ?_⟩
  · rw [decide_eq_true h, Bool.true_and] at k
    refine lqP (n := dn) (fun i => allB (fun i => apt S y (bDo S (dn - 1 - i)).toNatClampNeg x (bDS S (dn - 1 - i))) i = true) (fun i => [some (.ref m), some (.int (nI y)), some (.int x), some (.int (nI i))]) rfl (fun i hi hd ih => t256_13 ?_) (fun hd => t256_13 ?_)
    · obtain ⟨w1, w2, -⟩ := hR.2.2.2.2.1 i hi
      obtain ⟨zi, hzi, ezi⟩ := hI.2.2.2.2.2 (dn - 1 - i) (by omega)
      have ez : (bDo S (dn - 1 - i)).toNatClampNeg = zi := by rw [ezi, nI_clamp (by omega)]
      simp (disch := omega) only [vpT, nI_leI, nI_ltI, nI_eq, nleT, nleF, nltT, nltF, neqT, neqF, nI_add, pk_mul, subN, divN, nI_clamp, mI1, wrH, wrM1, wrM2, wrowH, wrowM, bI0, bI1, kIi, kVi, kRi, kLi, kIx, kVx, Option.some.injEq, exists_eq_left', true_and, and_true, true_implies, false_implies, implies_true, not_true_eq_false, not_false_eq_true, true_or, or_true, false_or, or_false, forall_eq, iteT, iteF, LM_ hM, hdn, w2, w1.trans ezi]
      refine mp_isApart hM hR hy hzi (t256_55 ?_)
      simp (disch := omega) only [vpT, nI_leI, nI_ltI, nI_eq, nleT, nleF, nltT, nltF, neqT, neqF, nI_add, pk_mul, subN, divN, nI_clamp, mI1, wrH, wrM1, wrM2, wrowH, wrowM, bI0, bI1, kIi, kVi, kRi, kLi, kIx, kVx, Option.some.injEq, exists_eq_left', true_and, and_true, true_implies, false_implies, implies_true, not_true_eq_false, not_false_eq_true, true_or, or_true, false_or, or_false, forall_eq, iteT, iteF, LM_ hM]
      refine ⟨fun q => ih ?_, fun q => ?_⟩
      · unfold allB
        rw [hd, ez, btf q]
        rfl
      · rw [allB_f (p := fun i => apt S y (bDo S (dn - 1 - i)).toNatClampNeg x (bDS S (dn - 1 - i))) hi (by rw [ez]; exact q)] at k
        exact k
    · simp (disch := omega) only [vpT, nI_leI, nI_ltI, nI_eq, nleT, nleF, nltT, nltF, neqT, neqF, nI_add, pk_mul, subN, divN, nI_clamp, mI1, wrH, wrM1, wrM2, wrowH, wrowM, bI0, bI1, kIi, kVi, kRi, kLi, kIx, kVx, Option.some.injEq, exists_eq_left', true_and, and_true, true_implies, false_implies, implies_true, not_true_eq_false, not_false_eq_true, true_or, or_true, false_or, or_false, forall_eq, iteT, iteF, LM_ hM, hdn]
      rw [hd, Bool.true_and] at k
      refine lqP (n := n) (fun i => allB (fun k => apt S y (bSo S (o k)).toNatClampNeg x (slt S o k)) i = true) (fun i => [some (.ref m), some (.int (nI y)), some (.int x), some (.int (nI i))]) rfl (fun i hi hd ih => t256_68 ?_) (fun hd => t256_68 ?_)
      · have hoi := ho i hi
        obtain ⟨zi, hzi, ezi⟩ := hI.2.2.2.1 (o i) hoi
        have ez : (bSo S (o i)).toNatClampNeg = zi := by rw [ezi, nI_clamp (by omega)]
        simp (disch := omega) only [vpT, nI_leI, nI_ltI, nI_eq, nleT, nleF, nltT, nltF, neqT, neqF, nI_add, pk_mul, subN, divN, nI_clamp, mI1, wrH, wrM1, wrM2, wrowH, wrowM, bI0, bI1, kIi, kVi, kRi, kLi, kIx, kVx, Option.some.injEq, exists_eq_left', true_and, and_true, true_implies, false_implies, implies_true, not_true_eq_false, not_false_eq_true, true_or, or_true, false_or, or_false, forall_eq, iteT, iteF, LM_ hM, hR.1.1, hL.1 i hi]
        refine mp_ofCraft (w := 0) hM (by omega) (by decide) (t256_92 ?_)
        rw [show I (m + 1) (6 + 4 * o i + 0) = nI zi from (hR.2.1 _ hoi).1.trans ezi]
        simp (disch := omega) only [vpT, nI_leI, nI_ltI, nI_eq, nleT, nleF, nltT, nltF, neqT, neqF, nI_add, pk_mul, subN, divN, nI_clamp, mI1, wrH, wrM1, wrM2, wrowH, wrowM, bI0, bI1, kIi, kVi, kRi, kLi, kIx, kVx, Option.some.injEq, exists_eq_left', true_and, and_true, true_implies, false_implies, implies_true, not_true_eq_false, not_false_eq_true, true_or, or_true, false_or, or_false, forall_eq, iteT, iteF, LM_ hM, hL.2 i hi]
        refine mp_isApart hM hR hy hzi (t256_101 ?_)
        simp (disch := omega) only [vpT, nI_leI, nI_ltI, nI_eq, nleT, nleF, nltT, nltF, neqT, neqF, nI_add, pk_mul, subN, divN, nI_clamp, mI1, wrH, wrM1, wrM2, wrowH, wrowM, bI0, bI1, kIi, kVi, kRi, kLi, kIx, kVx, Option.some.injEq, exists_eq_left', true_and, and_true, true_implies, false_implies, implies_true, not_true_eq_false, not_false_eq_true, true_or, or_true, false_or, or_false, forall_eq, iteT, iteF, LM_ hM]
        refine ⟨fun q => ih ?_, fun q => ?_⟩
        · unfold allB
          rw [hd, ez, btf q]
          rfl
        · rw [allB_f (p := fun k => apt S y (bSo S (o k)).toNatClampNeg x (slt S o k)) hi (by rw [ez]; exact q)] at k
          exact k
      · simp (disch := omega) only [vpT, nI_leI, nI_ltI, nI_eq, nleT, nleF, nltT, nltF, neqT, neqF, nI_add, pk_mul, subN, divN, nI_clamp, mI1, wrH, wrM1, wrM2, wrowH, wrowM, bI0, bI1, kIi, kVi, kRi, kLi, kIx, kVx, Option.some.injEq, exists_eq_left', true_and, and_true, true_implies, false_implies, implies_true, not_true_eq_false, not_false_eq_true, true_or, or_true, false_or, or_false, forall_eq, iteT, iteF, LM_ hM, hR.1.1]
        rw [hd] at k
        exact k
  · rw [decide_eq_false h] at k
    exact k
end MHOLE
