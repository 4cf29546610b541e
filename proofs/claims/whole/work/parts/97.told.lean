/-! Orders that are told by their figures. -/
def dg (a j : Nat) : Nat := a / 10 ^ j % 10
/-- an order well told: figures are those of n craft, each once -/
def GD (y : Int64) (n : Nat) : Prop := 0 ≤ y.toInt ∧ (∀ j, j < n → dg y.toInt.toNat j < n) ∧ (∀ i j, i < n → j < n → dg y.toInt.toNat i = dg y.toInt.toNat j → i = j) ∧ y.toInt.toNat / 10 ^ n = 0
theorem dg_lt {a j : Nat} : dg a j < 10 := Nat.mod_lt _ (by decide)
theorem i64_10 : (10 : Int64).toInt = 10 := by decide
theorem sm32 : ∀ k, k < 10 → (Int64.ofNat k).toInt32 = nI k := by decide
theorem sm32n : ∀ k, k < 10 → 0 < k → (-(Int64.ofNat k)).toInt32 < nI 0 := by decide
theorem J10 {y : Int64} {a : Nat} (h : y.toInt = a) : (y / 10).toInt = ((a / 10 : Nat) : Int) ∧ (y - y / 10 * 10).toInt32 = nI (a % 10) := by
  have hl := y.toInt_lt
  have q : (y / 10).toInt = ((a / 10 : Nat) : Int) := by
    rw [Int64.toInt_div_of_ne_right y 10 (by decide), h, i64_10, Int.tdiv_eq_ediv_of_nonneg (by omega)]
    omega
  refine ⟨q, ?_⟩
  have r : (y - y / 10 * 10).toInt = ((a % 10 : Nat) : Int) := by
    rw [Int64.toInt_sub, Int64.toInt_mul, q, h, i64_10, Int.bmod_eq_of_le (n := ((a / 10 : Nat) : Int) * 10) (by omega) (by omega), Int.bmod_eq_of_le (by omega) (by omega)]
    omega
  have e : y - y / 10 * 10 = Int64.ofNat (a % 10) := Int64.toInt_inj.mp (by rw [r, Int64.toInt_ofNat_of_lt (by omega)])
  rw [e]
  exact sm32 _ (by omega)
theorem J10n {y : Int64} (h : y.toInt < 0) : (y - y / 10 * 10).toInt32 < nI 0 ∨ ((y - y / 10 * 10).toInt32 = nI 0 ∧ (y / 10).toInt < 0) := by
  have hl := y.le_toInt
  obtain ⟨a, ha⟩ : ∃ a : Nat, y.toInt = -(a : Int) := ⟨(-y.toInt).toNat, by omega⟩
  have q : (y / 10).toInt = -((a / 10 : Nat) : Int) := by
    rw [Int64.toInt_div_of_ne_right y 10 (by decide), ha, i64_10, Int.neg_tdiv, Int.tdiv_eq_ediv_of_nonneg (by omega)]
    omega
  have r : (y - y / 10 * 10).toInt = -((a % 10 : Nat) : Int) := by
    rw [Int64.toInt_sub, Int64.toInt_mul, q, ha, i64_10, Int.bmod_eq_of_le (n := -((a / 10 : Nat) : Int) * 10) (by omega) (by omega), Int.bmod_eq_of_le (by omega) (by omega)]
    omega
  have e : y - y / 10 * 10 = -(Int64.ofNat (a % 10)) := Int64.toInt_inj.mp (by
    rw [r, Int64.toInt_neg, Int64.toInt_ofNat_of_lt (by omega), Int.bmod_eq_of_le (by omega) (by omega)])
  rw [e]
  by_cases h0 : a % 10 = 0
  · right
    rw [h0]
    exact ⟨by decide, by omega⟩
  · left
    exact sm32n _ (by omega) (by omega)
theorem MK_uni {x y : Int32} {u v : Nat → Bool} (h : MK x u) (h2 : MK y v) (e : ∀ c, c < 10 → u c = v c) : x = y := by
  obtain ⟨w, hw, rfl, hu⟩ := h
  obtain ⟨w2, hw2, rfl, hu2⟩ := h2
  congr 1
  refine Nat.eq_of_testBit_eq fun i => ?_
  by_cases hi : i < 10
  · rw [hu i hi, hu2 i hi, e i hi]
  · have : 2 ^ 10 ≤ 2 ^ i := Nat.pow_le_pow_right (by decide) (by omega)
    rw [Nat.testBit_lt_two_pow (by omega), Nat.testBit_lt_two_pow (by omega)]
theorem MK_full {n : Nat} (h : n ≤ 10) : MK ((nI 1 <<< (nI n &&& 31)) - nI 1) (fun c => decide (c < n)) := by
  have e : ∀ n, n < 11 → (nI 1 <<< (nI n &&& 31)) - nI 1 = nI (2 ^ n - 1) ∧ 2 ^ n - 1 < 1024 := by decide
  exact ⟨2 ^ n - 1, (e n (by omega)).2, (e n (by omega)).1, fun c _ => by rw [Nat.testBit_two_pow_sub_one]⟩
theorem surj_inj {n : Nat} {f : Nat → Nat} (h : ∀ v, v < n → ∃ i, i < n ∧ f i = v) : ∀ i j, i < n → j < n → f i = f j → i = j := by
  have key : ∀ i j, i < j → j < n → f i = f j → False := by
    intro i j hij hj e
    have := surj_le (n := n) (k := n - 1) (f := fun k => if k < j then f k else f (k + 1)) fun v hv => by
      obtain ⟨q, hq, eq⟩ := h v hv
      by_cases q1 : q < j
      · exact ⟨q, by omega, by rw [if_pos q1]; exact eq⟩
      · by_cases q2 : q = j
        · exact ⟨i, by omega, by rw [if_pos hij, e, ← q2]; exact eq⟩
        · exact ⟨q - 1, by omega, by rw [if_neg (by omega), show q - 1 + 1 = q by omega]; exact eq⟩
    omega
  intro i j hi hj e
  by_cases q1 : i < j
  · exact (key i j q1 hj e).elim
  · by_cases q2 : j < i
    · exact (key j i q2 hi e.symm).elim
    · omega
theorem nI0m : nI 0 + (-1) = (-1 : Int32) := by decide
theorem nI0s : nI 0 - nI 1 = (-1 : Int32) := by decide
theorem m1lt : ((-1 : Int32) < nI 0) = True := eq_true (by decide)
def pl (n i : Nat) : Int32 := if i < n then nI (n - 1 - i) else -1
theorem pl_0 {n : Nat} (h : n ≤ 10) : nI n - nI 1 = pl n 0 := by
  unfold pl
  split
  · rw [subN (by omega)]; rfl
  · rw [show n = 0 by omega]; exact nI0s
theorem pl_s {n i : Nat} (h : i < n) : nI (n - 1 - i) + (-1) = pl n (i + 1) := by
  unfold pl
  split
  · rw [mI1 (by omega)]; congr 1
  · rw [show n - 1 - i = 0 by omega]; exact nI0m
theorem l0 {y : Int64} {a : Nat} (h : y.toInt = a) : (lg_cmp y 0 = nI 0) = (a = 0) := by
  have := lg_cmp_eq y 0
  refine propext ⟨fun q => ?_, fun q => this.mpr (Int64.toInt_inj.mp (by rw [h, q]; rfl))⟩
  have e := this.mp q
  rw [e] at h
  have : (0 : Int64).toInt = 0 := rfl
  omega
theorem l0n {y : Int64} (h : y.toInt < 0) : (lg_cmp y 0 = nI 0) = False := by
  have := lg_cmp_eq y 0
  refine eq_false fun q => ?_
  have e := this.mp q
  rw [e] at h
  have : (0 : Int64).toInt = 0 := rfl
  omega
section TOLD
variable {I0 I : Nat → Nat → Int32} {J : Nat → Nat → Int64} {L : hL} {x n sn dn ac fi tp sd : Nat} {F : Int32 → hp → Prop} {G : hp → Prop} {X : Nat → hp → Prop} {d z l : Nat} {ex : Bool} {t : tl}
--facts LK_ hK, LM_ hK.m, LB_ hK.b
theorem sp_checkOrder {y : Int64} (hK : LK L x) (h : SX I0 I x n sn dn ac fi tp sd) (kx : ¬ GD y n → ∀ I2, same I I2 (fun a => a = x + 270) → X 0 (L, I2, J, z + 1, l + 6, false)) (k : GD y n → ∀ I2, same I I2 (fun a => a = x + 270) → ROW (I2 (x + 270)) (fun p => dg y.toInt.toNat (n - 1 - p)) n → G (L, I2, J, z, l, ex)) : cal (d + 2) 150 [.ref x, .long y] (L, I, J, z, l, ex) (kV G X) := by
  have hn := h.n10
  refine e150 (t150_0 ?_)
  simp (disch := omega) only [vpT, nI_leI, nI_ltI, nI_eq, nleT, nleF, nltT, nltF, neqT, neqF, nI_add, pk_mul, subN, divN, nI_clamp, mI1, wrH, wrM1, wrM2, wrowH, wrowM, bI0, bI1, kIi, kVi, kRi, kLi, kIx, kVx, Option.some.injEq, exists_eq_left', true_and, and_true, true_implies, false_implies, implies_true, not_true_eq_false, not_false_eq_true, true_or, or_true, false_or, or_false, forall_eq, iteT, iteF, LK_ hK, LM_ hK.m, LB_ hK.b, h.n0, pl_0]
  by_cases hy : 0 ≤ y.toInt
  · obtain ⟨a, ha⟩ : ∃ a : Nat, y.toInt = a := ⟨y.toInt.toNat, by omega⟩
    have ea : y.toInt.toNat = a := by omega
    unfold GD at kx k
    rw [ea] at kx k
    refine lg (n := n) (fun i lv h => ∃ I2 yi mk l8, lv = [some (.ref x), some (.long y), none, some (.int (nI n)), some (.long yi), none, some (.int mk), some (.int (pl n i)), l8] ∧ h = (L, I2, J, z, l, ex) ∧ same I I2 (fun a => a = x + 270) ∧ yi.toInt = ((a / 10 ^ i : Nat) : Int) ∧ MK mk (usd (dg a) i) ∧ (∀ j, j < i → dg a j < n) ∧ (∀ i1 j, i1 < i → j < i → dg a i1 = dg a j → i1 = j) ∧ ∀ j, j < i → I2 (x + 270) (n - 1 - j) = nI (dg a j)) ?_ ?_ (Nat.zero_le _) _ _ ⟨I, y, _, _, rfl, rfl, same.rf, by rw [ha]; rw [Nat.pow_zero, Nat.div_one], MK_0, fun j hj => by omega, fun i1 j hi => by omega, fun j hj => by omega⟩
    · rintro i hi ih _ _ ⟨I2, yi, mk, l8, rfl, rfl, hs, hyi, hmk, h1, h2, h3⟩
      have hp : pl n i = nI (n - 1 - i) := if_pos hi
      obtain ⟨j1, j2⟩ := J10 hyi
      have ed : a / 10 ^ i % 10 = dg a i := rfl
      rw [ed] at j2
      have hd10 := dg_lt (a := a) (j := i)
      refine t150_22 ?_
      rw [hp, j2]
      by_cases q1 : dg a i < n
      · simp (disch := omega) only [vpT, nI_leI, nI_ltI, nI_eq, nleT, nleF, nltT, nltF, neqT, neqF, nI_add, pk_mul, subN, divN, nI_clamp, mI1, wrH, wrM1, wrM2, wrowH, wrowM, bI0, bI1, kIi, kVi, kRi, kLi, kIx, kVx, Option.some.injEq, exists_eq_left', true_and, and_true, true_implies, false_implies, implies_true, not_true_eq_false, not_false_eq_true, true_or, or_true, false_or, or_false, forall_eq, iteT, iteF, LK_ hK, LM_ hK.m, LB_ hK.b]
        refine sp_isIn hmk hd10 (t150_54 ?_)
        cases hu : usd (dg a) i (dg a i) with
        | true =>
          obtain ⟨j, hj, ej⟩ := usd_iff.mp hu
          simp (disch := omega) only [vpT, nI_leI, nI_ltI, nI_eq, nleT, nleF, nltT, nltF, neqT, neqF, nI_add, pk_mul, subN, divN, nI_clamp, mI1, wrH, wrM1, wrM2, wrowH, wrowM, bI0, bI1, kIi, kVi, kRi, kLi, kIx, kVx, Option.some.injEq, exists_eq_left', true_and, and_true, true_implies, false_implies, implies_true, not_true_eq_false, not_false_eq_true, true_or, or_true, false_or, or_false, forall_eq, iteT, iteF, LK_ hK, LM_ hK.m, LB_ hK.b, bI_t]
          refine kx (fun q => ?_) I2 hs
          have := q.2.2.1 j i (by omega) hi ej
          omega
        | false =>
          simp (disch := omega) only [vpT, nI_leI, nI_ltI, nI_eq, nleT, nleF, nltT, nltF, neqT, neqF, nI_add, pk_mul, subN, divN, nI_clamp, mI1, wrH, wrM1, wrM2, wrowH, wrowM, bI0, bI1, kIi, kVi, kRi, kLi, kIx, kVx, Option.some.injEq, exists_eq_left', true_and, and_true, true_implies, false_implies, implies_true, not_true_eq_false, not_false_eq_true, true_or, or_true, false_or, or_false, forall_eq, iteT, iteF, LK_ hK, LM_ hK.m, LB_ hK.b, bI_f, pl_s]
          refine ih _ _ ⟨_, _, _, _, rfl, rfl, fun b hb => by rw [wrM1 hb]; exact hs b hb, by rw [j1, Nat.pow_succ, ← Nat.div_div_eq_div_mul], (MK_or hmk hd10).congr' fun c _ => usd_succ.symm, fun j hj => ?_, fun i1 j hi1 hj e => ?_, fun j hj => ?_⟩
          · by_cases q : j = i
            · rw [q]; exact q1
            · exact h1 j (by omega)
          · have hf := usd_f.mp hu
            by_cases e1 : i1 = i <;> by_cases e2 : j = i
            · omega
            · exact absurd (by rw [← e, e1]) (hf j (by omega))
            · exact absurd (by rw [e, e2]) (hf i1 (by omega))
            · exact h2 i1 j (by omega) (by omega) e
          · by_cases q : j = i
            · rw [q]; exact wrH rfl rfl
            · rw [wrM2 (by omega)]; exact h3 j (by omega)
      · simp (disch := omega) only [vpT, nI_leI, nI_ltI, nI_eq, nleT, nleF, nltT, nltF, neqT, neqF, nI_add, pk_mul, subN, divN, nI_clamp, mI1, wrH, wrM1, wrM2, wrowH, wrowM, bI0, bI1, kIi, kVi, kRi, kLi, kIx, kVx, Option.some.injEq, exists_eq_left', true_and, and_true, true_implies, false_implies, implies_true, not_true_eq_false, not_false_eq_true, true_or, or_true, false_or, or_false, forall_eq, iteT, iteF, LK_ hK, LM_ hK.m, LB_ hK.b]
        refine kx (fun q => q1 (q.2.1 i hi)) I2 hs
    · rintro _ _ ⟨I2, yi, mk, l8, rfl, rfl, hs, hyi, hmk, h1, h2, h3⟩
      have hp : pl n n = -1 := if_neg (by omega)
      refine t150_22 ?_
      rw [hp]
      by_cases q0 : a / 10 ^ n = 0
      · simp (disch := omega) only [vpT, nI_leI, nI_ltI, nI_eq, nleT, nleF, nltT, nltF, neqT, neqF, nI_add, pk_mul, subN, divN, nI_clamp, mI1, wrH, wrM1, wrM2, wrowH, wrowM, bI0, bI1, kIi, kVi, kRi, kLi, kIx, kVx, Option.some.injEq, exists_eq_left', true_and, and_true, true_implies, false_implies, implies_true, not_true_eq_false, not_false_eq_true, true_or, or_true, false_or, or_false, forall_eq, iteT, iteF, LK_ hK, LM_ hK.m, LB_ hK.b, m1lt, l0 hyi, q0]
        refine k ⟨hy, h1, h2, q0⟩ I2 hs fun p hp => ?_
        have := h3 (n - 1 - p) (by omega)
        rw [show n - 1 - (n - 1 - p) = p by omega] at this
        exact this
      · simp (disch := omega) only [vpT, nI_leI, nI_ltI, nI_eq, nleT, nleF, nltT, nltF, neqT, neqF, nI_add, pk_mul, subN, divN, nI_clamp, mI1, wrH, wrM1, wrM2, wrowH, wrowM, bI0, bI1, kIi, kVi, kRi, kLi, kIx, kVx, Option.some.injEq, exists_eq_left', true_and, and_true, true_implies, false_implies, implies_true, not_true_eq_false, not_false_eq_true, true_or, or_true, false_or, or_false, forall_eq, iteT, iteF, LK_ hK, LM_ hK.m, LB_ hK.b, m1lt, l0 hyi, q0]
        exact kx (fun q => q0 q.2.2.2) I2 hs
  · have hy : y.toInt < 0 := by omega
    have nG : ¬ GD y n := fun q => by have := q.1; omega
    by_cases n0 : n = 0
    · subst n0
      refine t150_22 ?_
      have hp : pl 0 0 = -1 := rfl
      rw [hp]
      simp (disch := omega) only [vpT, nI_leI, nI_ltI, nI_eq, nleT, nleF, nltT, nltF, neqT, neqF, nI_add, pk_mul, subN, divN, nI_clamp, mI1, wrH, wrM1, wrM2, wrowH, wrowM, bI0, bI1, kIi, kVi, kRi, kLi, kIx, kVx, Option.some.injEq, exists_eq_left', true_and, and_true, true_implies, false_implies, implies_true, not_true_eq_false, not_false_eq_true, true_or, or_true, false_or, or_false, forall_eq, iteT, iteF, LK_ hK, LM_ hK.m, LB_ hK.b, m1lt, l0n hy]
      exact kx nG I same.rf
    · refine t150_22 ?_
      rw [show pl n 0 = nI (n - 1 - 0) from if_pos (by omega)]
      rcases J10n hy with q | ⟨q, q2⟩
      · have q' : ((y - y / 10 * 10).toInt32 < nI 0) = True := eq_true q
        simp (disch := omega) only [vpT, nI_leI, nI_ltI, nI_eq, nleT, nleF, nltT, nltF, neqT, neqF, nI_add, pk_mul, subN, divN, nI_clamp, mI1, wrH, wrM1, wrM2, wrowH, wrowM, bI0, bI1, kIi, kVi, kRi, kLi, kIx, kVx, Option.some.injEq, exists_eq_left', true_and, and_true, true_implies, false_implies, implies_true, not_true_eq_false, not_false_eq_true, true_or, or_true, false_or, or_false, forall_eq, iteT, iteF, LK_ hK, LM_ hK.m, LB_ hK.b, q']
        exact kx nG I same.rf
      · rw [q]
        simp (disch := omega) only [vpT, nI_leI, nI_ltI, nI_eq, nleT, nleF, nltT, nltF, neqT, neqF, nI_add, pk_mul, subN, divN, nI_clamp, mI1, wrH, wrM1, wrM2, wrowH, wrowM, bI0, bI1, kIi, kVi, kRi, kLi, kIx, kVx, Option.some.injEq, exists_eq_left', true_and, and_true, true_implies, false_implies, implies_true, not_true_eq_false, not_false_eq_true, true_or, or_true, false_or, or_false, forall_eq, iteT, iteF, LK_ hK, LM_ hK.m, LB_ hK.b]
        refine sp_isIn MK_0 (by decide) (t150_54 ?_)
        simp (disch := omega) only [vpT, nI_leI, nI_ltI, nI_eq, nleT, nleF, nltT, nltF, neqT, neqF, nI_add, pk_mul, subN, divN, nI_clamp, mI1, wrH, wrM1, wrM2, wrowH, wrowM, bI0, bI1, kIi, kVi, kRi, kLi, kIx, kVx, Option.some.injEq, exists_eq_left', true_and, and_true, true_implies, false_implies, implies_true, not_true_eq_false, not_false_eq_true, true_or, or_true, false_or, or_false, forall_eq, iteT, iteF, LK_ hK, LM_ hK.m, LB_ hK.b, bI_f, pl_s]
        have mk1 := MK_or (c := 0) MK_0 (by decide)
        generalize hmk : (nI 0 ||| nI 1 <<< (nI 0 &&& 31)) = mk at mk1
        refine t150_22 ?_
        by_cases n1 : n = 1
        · subst n1
          have hp : pl 1 (0 + 1) = -1 := rfl
          rw [hp]
          simp (disch := omega) only [vpT, nI_leI, nI_ltI, nI_eq, nleT, nleF, nltT, nltF, neqT, neqF, nI_add, pk_mul, subN, divN, nI_clamp, mI1, wrH, wrM1, wrM2, wrowH, wrowM, bI0, bI1, kIi, kVi, kRi, kLi, kIx, kVx, Option.some.injEq, exists_eq_left', true_and, and_true, true_implies, false_implies, implies_true, not_true_eq_false, not_false_eq_true, true_or, or_true, false_or, or_false, forall_eq, iteT, iteF, LK_ hK, LM_ hK.m, LB_ hK.b, m1lt, l0n q2]
          exact kx nG _ fun b hb => wrM1 hb
        · rw [show pl n (0 + 1) = nI (n - 1 - (0 + 1)) from if_pos (by omega)]
          rcases J10n q2 with w | ⟨w, w2⟩
          · have w' : ((y / 10 - y / 10 / 10 * 10).toInt32 < nI 0) = True := eq_true w
            simp (disch := omega) only [vpT, nI_leI, nI_ltI, nI_eq, nleT, nleF, nltT, nltF, neqT, neqF, nI_add, pk_mul, subN, divN, nI_clamp, mI1, wrH, wrM1, wrM2, wrowH, wrowM, bI0, bI1, kIi, kVi, kRi, kLi, kIx, kVx, Option.some.injEq, exists_eq_left', true_and, and_true, true_implies, false_implies, implies_true, not_true_eq_false, not_false_eq_true, true_or, or_true, false_or, or_false, forall_eq, iteT, iteF, LK_ hK, LM_ hK.m, LB_ hK.b, w']
            exact kx nG _ fun b hb => wrM1 hb
          · rw [w]
            simp (disch := omega) only [vpT, nI_leI, nI_ltI, nI_eq, nleT, nleF, nltT, nltF, neqT, neqF, nI_add, pk_mul, subN, divN, nI_clamp, mI1, wrH, wrM1, wrM2, wrowH, wrowM, bI0, bI1, kIi, kVi, kRi, kLi, kIx, kVx, Option.some.injEq, exists_eq_left', true_and, and_true, true_implies, false_implies, implies_true, not_true_eq_false, not_false_eq_true, true_or, or_true, false_or, or_false, forall_eq, iteT, iteF, LK_ hK, LM_ hK.m, LB_ hK.b]
            refine sp_isIn mk1 (by decide) (t150_54 ?_)
            rw [show ((fun _ : Nat => false) 0 || decide (0 = 0)) = true from rfl]
            simp (disch := omega) only [vpT, nI_leI, nI_ltI, nI_eq, nleT, nleF, nltT, nltF, neqT, neqF, nI_add, pk_mul, subN, divN, nI_clamp, mI1, wrH, wrM1, wrM2, wrowH, wrowM, bI0, bI1, kIi, kVi, kRi, kLi, kIx, kVx, Option.some.injEq, exists_eq_left', true_and, and_true, true_implies, false_implies, implies_true, not_true_eq_false, not_false_eq_true, true_or, or_true, false_or, or_false, forall_eq, iteT, iteF, LK_ hK, LM_ hK.m, LB_ hK.b, bI_t]
            exact kx nG _ fun b hb => wrM1 hb
theorem mp_laysTold {y : Int64} (hK : LK L x) (hn : n ≤ 10) (h0 : I (x + 271 + 1) 0 = nI n) (k0 : ¬ GD y n → ∀ I2, same I I2 (fun a => a = x + 271 + 6) → F (nI 0) (L, I2, J, t)) (k1 : GD y n → ∀ I2, same I I2 (fun a => a = x + 271 + 6) → ROW (I2 (x + 271 + 6)) (fun p => dg y.toInt.toNat (n - 1 - p)) n → F (nI 1) (L, I2, J, t)) : cal (d + 1) 240 [.ref (x + 271), .long y] (L, I, J, t) (kI F X) := by
  refine e240 (t240_0 ?_)
  by_cases hy : 0 ≤ y.toInt
  · obtain ⟨a, ha⟩ : ∃ a : Nat, y.toInt = a := ⟨y.toInt.toNat, by omega⟩
    have ea : y.toInt.toNat = a := by omega
    have c0 : (nI 0 ≤ lg_cmp y 0) = True := eq_true ((lg_cmp_ge y 0).mpr (Int64.le_iff_toInt_le.mpr hy))
    unfold GD at k0 k1
    rw [ea] at k0 k1
    simp (disch := omega) only [vpT, nI_leI, nI_ltI, nI_eq, nleT, nleF, nltT, nltF, neqT, neqF, nI_add, pk_mul, subN, divN, nI_clamp, mI1, wrH, wrM1, wrM2, wrowH, wrowM, bI0, bI1, kIi, kVi, kRi, kLi, kIx, kVx, Option.some.injEq, exists_eq_left', true_and, and_true, true_implies, false_implies, implies_true, not_true_eq_false, not_false_eq_true, true_or, or_true, false_or, or_false, forall_eq, iteT, iteF, LK_ hK, LM_ hK.m, LB_ hK.b, c0, h0, pl_0]
    refine lg (n := n) (fun i lv h => ∃ I2 yi mk, lv = [some (.ref (x + 271)), some (.long y), none, some (.long yi), none, some (.int mk), some (.int (pl n i))] ∧ h = (L, I2, J, t) ∧ same I I2 (fun a => a = x + 271 + 6) ∧ yi.toInt = ((a / 10 ^ i : Nat) : Int) ∧ MK mk (usd (dg a) i) ∧ ∀ j, j < i → I2 (x + 271 + 6) (n - 1 - j) = nI (dg a j)) ?_ ?_ (Nat.zero_le _) _ _ ⟨I, y, _, rfl, rfl, same.rf, by rw [ha]; rw [Nat.pow_zero, Nat.div_one], MK_0, fun j hj => by omega⟩
    · rintro i hi ih _ _ ⟨I2, yi, mk, rfl, rfl, hs, hyi, hmk, h3⟩
      have hp : pl n i = nI (n - 1 - i) := if_pos hi
      obtain ⟨j1, j2⟩ := J10 hyi
      have ed : a / 10 ^ i % 10 = dg a i := rfl
      rw [ed] at j2
      have hd10 := dg_lt (a := a) (j := i)
      refine t240_23 ?_
      rw [hp, j2]
      simp (disch := omega) only [vpT, nI_leI, nI_ltI, nI_eq, nleT, nleF, nltT, nltF, neqT, neqF, nI_add, pk_mul, subN, divN, nI_clamp, mI1, wrH, wrM1, wrM2, wrowH, wrowM, bI0, bI1, kIi, kVi, kRi, kLi, kIx, kVx, Option.some.injEq, exists_eq_left', true_and, and_true, true_implies, false_implies, implies_true, not_true_eq_false, not_false_eq_true, true_or, or_true, false_or, or_false, forall_eq, iteT, iteF, LK_ hK, LM_ hK.m, LB_ hK.b, pl_s]
      refine ih _ _ ⟨_, _, _, rfl, rfl, fun b hb => by rw [wrM1 hb]; exact hs b hb, by rw [j1, Nat.pow_succ, ← Nat.div_div_eq_div_mul], (MK_or hmk hd10).congr' fun c _ => usd_succ.symm, fun j hj => ?_⟩
      by_cases q : j = i
      · rw [q]; exact wrH rfl rfl
      · rw [wrM2 (by omega)]; exact h3 j (by omega)
    · rintro _ _ ⟨I2, yi, mk, rfl, rfl, hs, hyi, hmk, h3⟩
      have hp : pl n n = -1 := if_neg (by omega)
      have e0 : I2 (x + 271 + 1) 0 = nI n := by rw [hs _ (by omega)]; exact h0
      refine t240_23 ?_
      rw [hp]
      have row : ROW (I2 (x + 271 + 6)) (fun p => dg a (n - 1 - p)) n := fun p hp => by
        have := h3 (n - 1 - p) (by omega)
        rw [show n - 1 - (n - 1 - p) = p by omega] at this
        exact this
      by_cases q0 : a / 10 ^ n = 0
      · simp (disch := omega) only [vpT, nI_leI, nI_ltI, nI_eq, nleT, nleF, nltT, nltF, neqT, neqF, nI_add, pk_mul, subN, divN, nI_clamp, mI1, wrH, wrM1, wrM2, wrowH, wrowM, bI0, bI1, kIi, kVi, kRi, kLi, kIx, kVx, Option.some.injEq, exists_eq_left', true_and, and_true, true_implies, false_implies, implies_true, not_true_eq_false, not_false_eq_true, true_or, or_true, false_or, or_false, forall_eq, iteT, iteF, LK_ hK, LM_ hK.m, LB_ hK.b, m1lt, l0 hyi, q0, e0]
        refine ⟨fun q => k0 (fun g => q (MK_uni hmk (MK_full hn) fun c hc => ?_)) I2 hs, fun q => k1 ⟨hy, ?_, ?_, q0⟩ I2 hs row⟩
        · by_cases hcn : c < n
          · obtain ⟨j, hj, ej⟩ := pigeon g.2.1 g.2.2.1 c hcn
            rw [usd_iff.mpr ⟨j, hj, ej⟩]
            exact (decide_eq_true hcn).symm
          · rw [usd_f.mpr fun j hj ej => hcn (by rw [← ej]; exact g.2.1 j hj)]
            exact (decide_eq_false hcn).symm
        · have tk : ∀ c, c < 10 → usd (dg a) n c = decide (c < n) := by
            intro c hc
            obtain ⟨w, hw, rfl, hu⟩ := hmk
            obtain ⟨w2, hw2, e2, hu2⟩ := MK_full hn
            rw [e2] at q
            have := (nI_eq (by omega) (by omega)).mp q
            rw [← hu c hc, this, hu2 c hc]
          intro j hj
          have := tk (dg a j) dg_lt
          rw [usd_iff.mpr ⟨j, hj, rfl⟩] at this
          exact of_decide_eq_true this.symm
        · have tk : ∀ c, c < 10 → usd (dg a) n c = decide (c < n) := by
            intro c hc
            obtain ⟨w, hw, rfl, hu⟩ := hmk
            obtain ⟨w2, hw2, e2, hu2⟩ := MK_full hn
            rw [e2] at q
            have := (nI_eq (by omega) (by omega)).mp q
            rw [← hu c hc, this, hu2 c hc]
          refine surj_inj fun v hv => ?_
          have := tk v (by omega)
          rw [decide_eq_true hv] at this
          exact usd_iff.mp this
      · simp (disch := omega) only [vpT, nI_leI, nI_ltI, nI_eq, nleT, nleF, nltT, nltF, neqT, neqF, nI_add, pk_mul, subN, divN, nI_clamp, mI1, wrH, wrM1, wrM2, wrowH, wrowM, bI0, bI1, kIi, kVi, kRi, kLi, kIx, kVx, Option.some.injEq, exists_eq_left', true_and, and_true, true_implies, false_implies, implies_true, not_true_eq_false, not_false_eq_true, true_or, or_true, false_or, or_false, forall_eq, iteT, iteF, LK_ hK, LM_ hK.m, LB_ hK.b, m1lt, l0 hyi, q0]
        exact k0 (fun g => q0 g.2.2.2) I2 hs
  · have c0 : (nI 0 ≤ lg_cmp y 0) = False := eq_false fun q => hy (Int64.le_iff_toInt_le.mp ((lg_cmp_ge y 0).mp q))
    simp (disch := omega) only [vpT, nI_leI, nI_ltI, nI_eq, nleT, nleF, nltT, nltF, neqT, neqF, nI_add, pk_mul, subN, divN, nI_clamp, mI1, wrH, wrM1, wrM2, wrowH, wrowM, bI0, bI1, kIi, kVi, kRi, kLi, kIx, kVx, Option.some.injEq, exists_eq_left', true_and, and_true, true_implies, false_implies, implies_true, not_true_eq_false, not_false_eq_true, true_or, or_true, false_or, or_false, forall_eq, iteT, iteF, LK_ hK, LM_ hK.m, LB_ hK.b, c0]
    exact k0 (fun q => hy q.1) I same.rf
end TOLD
