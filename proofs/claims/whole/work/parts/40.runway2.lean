/-! The class's runways: orders that are tried, moves. -/
theorem sk_lt {a k n : Nat} (h : k < n - 1) : sk a k < n := by unfold sk; split <;> omega
theorem mvd_e {o : Nat → Nat} {a p k : Nat} (h : k = p) : mvd o a p k = o a := if_pos h
theorem mvd_l {o : Nat → Nat} {a p k : Nat} (h : k < p) : mvd o a p k = o (sk a k) := by unfold mvd; rw [if_neg (by omega), if_pos h]
theorem mvd_g {o : Nat → Nat} {a p k : Nat} (h : p < k) : mvd o a p k = o (sk a (k - 1)) := by unfold mvd; rw [if_neg (by omega), if_neg (by omega)]
theorem sk_l {a k : Nat} (h : k < a) : sk a k = k := if_pos h
theorem sk_g {a k : Nat} (h : a ≤ k) : sk a k = k + 1 := if_neg (by omega)
theorem swp_a {o : Nat → Nat} {p k : Nat} (h : k = p) : swp o p k = o (p + 1) := if_pos h
theorem swp_b {o : Nat → Nat} {p k : Nat} (h : k = p + 1) : swp o p k = o p := by unfold swp; rw [if_neg (by omega), if_pos h]
theorem swp_o {o : Nat → Nat} {p k : Nat} (h : k ≠ p) (h2 : k ≠ p + 1) : swp o p k = o k := by unfold swp; rw [if_neg h, if_neg h2]
theorem mvd_aa {o : Nat → Nat} {a k : Nat} : mvd o a a k = o k := by
  rcases Nat.lt_trichotomy k a with h | h | h
  · rw [mvd_l h, sk_l h]
  · rw [mvd_e h, h]
  · rw [mvd_g h, sk_g (by omega)]; congr 1; omega
theorem mvd_up {o : Nat → Nat} {a i k : Nat} (h : a ≤ i) : swp (mvd o a i) i k = mvd o a (i + 1) k := by
  by_cases e1 : k = i
  · rw [swp_a e1, mvd_g (by omega), mvd_l (by omega), e1]; rfl
  · by_cases e2 : k = i + 1
    · rw [swp_b e2, mvd_e rfl, mvd_e e2]
    · rw [swp_o e1 e2]
      by_cases e3 : k < i
      · rw [mvd_l e3, mvd_l (by omega)]
      · rw [mvd_g (by omega), mvd_g (by omega)]
theorem mvd_dn {o : Nat → Nat} {a i k : Nat} (h : i < a) : swp (mvd o a (i + 1)) i k = mvd o a i k := by
  by_cases e1 : k = i
  · rw [swp_a e1, mvd_e rfl, mvd_e e1]
  · by_cases e2 : k = i + 1
    · rw [swp_b e2, mvd_l (by omega), mvd_g (by omega), e2]; rfl
    · rw [swp_o e1 e2]
      by_cases e3 : k < i
      · rw [mvd_l (by omega), mvd_l e3]
      · rw [mvd_g (by omega), mvd_g (by omega)]
theorem mvd_lt {o : Nat → Nat} {a p n k : Nat} (ho : ∀ j, j < n → o j < n) (ha : a < n) (hp : p < n) (hk : k < n) : mvd o a p k < n := by
  unfold mvd
  split
  · exact ho a ha
  · exact ho _ (sk_lt (by split <;> omega))
theorem mvd_swp {o : Nat → Nat} {p k : Nat} : mvd o p (p + 1) k = swp o p k := by
  rw [← mvd_up (Nat.le_refl p)]
  unfold swp
  rw [mvd_aa, mvd_aa, mvd_aa]
theorem swp_lt {o : Nat → Nat} {p n k : Nat} (ho : ∀ j, j < n → o j < n) (hp : p + 1 < n) (hk : k < n) : swp o p k < n := by
  unfold swp
  split
  · exact ho _ hp
  · split
    · exact ho _ (by omega)
    · exact ho _ hk
/-- a row of so many crafts -/
def ROW (f : rw1) (o : Nat → Nat) (n : Nat) : Prop := ∀ k, k < n → f k = nI (o k)
/-- the best of m places from f on: it and its cost -/
def bst (ok : Nat → Bool) (co : Nat → Int32) (f : Nat) : Nat → Int32 × Int32
  | 0 => (-1, nI 2147483647)
  | m + 1 => if ok (f + m) = true ∧ co (f + m) < (bst ok co f m).2 then (nI (f + m), co (f + m)) else bst ok co f m
def trd (ok : Nat → Bool) (co : Nat → Int32) (l0 : Int32) (f : Nat) : Nat → Int32 × Int32
  | 0 => (-1, l0)
  | m + 1 => if ok (f + m) = true ∧ co (f + m) < (trd ok co l0 f m).2 then (nI (f + m), co (f + m)) else trd ok co l0 f m
section RUNWAY2
variable {d : Nat} {L : hL} {I : Nat → Nat → Int32} {J : Nat → Nat → Int64} {t : tl} {r b n sn dn : Nat} {F : Int32 → hp → Prop} {G : hp → Prop} {N : Nat → hp → Prop} {X : Nat → hp → Prop}
--facts LB_ hB
theorem sp_moveTo {c a p : Nat} (hB : LB L b) (hI : BI (bd I b) n sn dn) (hP : PI (bd I b) n) (ha : a < n) (hc : ordN (bd I b) a = c) (hp : p < n) (k : ∀ I2, same I I2 (fun q => q = b + 6) → ROW (I2 (b + 6)) (mvd (ordN (bd I b)) a p) n → G (L, I2, J, t)) : cal (d + 2) 40 [.ref b, .int (nI c), .int (nI p)] (L, I, J, t) (kV G X) := by
  have hn := hI.1.2
  have hn0 : I b 0 = nI n := hI.1.1
  have swap : ∀ I2 i j, i + 1 < n → ROW (I2 (b + 6)) (mvd (ordN (bd I b)) a j) n → ROW (wr (wr I2 (b + 6) i (I2 (b + 6) (i + 1))) (b + 6) (i + 1) (I2 (b + 6) i) (b + 6)) (swp (mvd (ordN (bd I b)) a j) i) n := by
    intro I2 i j hi h q hq
    unfold swp
    by_cases e1 : q = i
    · rw [if_pos e1, wrM2 (by omega), wrH rfl e1]; exact h _ hi
    · rw [if_neg e1]
      by_cases e2 : q = i + 1
      · rw [if_pos e2, wrH rfl e2]; exact h _ (by omega)
      · rw [if_neg e2, wrM2 e2, wrM2 e1]; exact h _ hq
  have down : ∀ I2, same I I2 (fun q => q = b + 6) → ∀ i, p ≤ i → (i = p ∨ i ≤ a) → i < n → ROW (I2 (b + 6)) (mvd (ordN (bd I b)) a i) n → Wp (cal (d + 1)) kc_40 [] (kV G X) (22, [some (.ref b), some (.int (nI c)), some (.int (nI p)), some (.int (nI i))], [], (L, I2, J, t)) := by
    intro I2 hs i
    induction i generalizing I2 with
    | zero =>
      intro h1 h2 h3 h4
      refine t40_22 ?_
      simp (disch := omega) only [vpT, nI_leI, nI_ltI, nI_eq, nleT, nleF, nltT, nltF, neqT, neqF, nI_add, pk_mul, subN, divN, nI_clamp, mI1, wrH, wrM1, wrM2, wrowH, wrowM, bI0, bI1, kIi, kVi, kRi, kLi, kIx, kVx, Option.some.injEq, exists_eq_left', true_and, and_true, true_implies, false_implies, implies_true, not_true_eq_false, not_false_eq_true, true_or, or_true, false_or, or_false, forall_eq, iteT, iteF, LB_ hB]
      exact k I2 hs (by rw [show p = 0 by omega]; exact h4)
    | succ i ih =>
      intro h1 h2 h3 h4
      refine t40_22 ?_
      by_cases e : i + 1 = p
      · simp (disch := omega) only [vpT, nI_leI, nI_ltI, nI_eq, nleT, nleF, nltT, nltF, neqT, neqF, nI_add, pk_mul, subN, divN, nI_clamp, mI1, wrH, wrM1, wrM2, wrowH, wrowM, bI0, bI1, kIi, kVi, kRi, kLi, kIx, kVx, Option.some.injEq, exists_eq_left', true_and, and_true, true_implies, false_implies, implies_true, not_true_eq_false, not_false_eq_true, true_or, or_true, false_or, or_false, forall_eq, iteT, iteF, LB_ hB]
        exact k I2 hs (by rw [← e]; exact h4)
      · simp (disch := omega) only [vpT, nI_leI, nI_ltI, nI_eq, nleT, nleF, nltT, nltF, neqT, neqF, nI_add, pk_mul, subN, divN, nI_clamp, mI1, wrH, wrM1, wrM2, wrowH, wrowM, bI0, bI1, kIi, kVi, kRi, kLi, kIx, kVx, Option.some.injEq, exists_eq_left', true_and, and_true, true_implies, false_implies, implies_true, not_true_eq_false, not_false_eq_true, true_or, or_true, false_or, or_false, forall_eq, iteT, iteF, LB_ hB, show i + 1 - 1 = i by omega]
        refine sp_swapWithNext (n := n) hB (by rw [hs b (by omega)]; exact hn0) hn (by omega) (t40_34 ?_)
        simp (disch := omega) only [vpT, nI_leI, nI_ltI, nI_eq, nleT, nleF, nltT, nltF, neqT, neqF, nI_add, pk_mul, subN, divN, nI_clamp, mI1, wrH, wrM1, wrM2, wrowH, wrowM, bI0, bI1, kIi, kVi, kRi, kLi, kIx, kVx, Option.some.injEq, exists_eq_left', true_and, and_true, true_implies, false_implies, implies_true, not_true_eq_false, not_false_eq_true, true_or, or_true, false_or, or_false, forall_eq, iteT, iteF, LB_ hB, show i + 1 - 1 = i by omega]
        refine ih _ (fun q hq => ?_) (by omega) (by omega) (by omega) ?_
        · simp (disch := omega) only [vpT, nI_leI, nI_ltI, nI_eq, nleT, nleF, nltT, nltF, neqT, neqF, nI_add, pk_mul, subN, divN, nI_clamp, mI1, wrH, wrM1, wrM2, wrowH, wrowM, bI0, bI1, kIi, kVi, kRi, kLi, kIx, kVx, Option.some.injEq, exists_eq_left', true_and, and_true, true_implies, false_implies, implies_true, not_true_eq_false, not_false_eq_true, true_or, or_true, false_or, or_false, forall_eq, iteT, iteF, LB_ hB]
          exact hs q hq
        · have := swap I2 i (i + 1) (by omega) h4
          intro q hq
          rw [this q hq, mvd_dn (by omega)]
  refine e40 (t40_0 ?_)
  simp (disch := omega) only [vpT, nI_leI, nI_ltI, nI_eq, nleT, nleF, nltT, nltF, neqT, neqF, nI_add, pk_mul, subN, divN, nI_clamp, mI1, wrH, wrM1, wrM2, wrowH, wrowM, bI0, bI1, kIi, kVi, kRi, kLi, kIx, kVx, Option.some.injEq, exists_eq_left', true_and, and_true, true_implies, false_implies, implies_true, not_true_eq_false, not_false_eq_true, true_or, or_true, false_or, or_false, forall_eq, iteT, iteF, LB_ hB]
  refine sp_placeOf hB hI hP ha hc (t40_5 ?_)
  by_cases hap : a ≤ p
  · refine lg (n := p) (fun i l h => ∃ I2, l = [some (.ref b), some (.int (nI c)), some (.int (nI p)), some (.int (nI i))] ∧ h = (L, I2, J, t) ∧ same I I2 (fun q => q = b + 6) ∧ a ≤ i ∧ ROW (I2 (b + 6)) (mvd (ordN (bd I b)) a i) n) ?_ ?_ hap _ _ ⟨I, rfl, rfl, same.rf, Nat.le_refl _, fun q hq => by rw [mvd_aa]; exact (bi_or hI hq).1⟩
    · rintro i hi ih _ _ ⟨I2, rfl, rfl, hs, hai, h4⟩
      refine t40_6 ?_
      simp (disch := omega) only [vpT, nI_leI, nI_ltI, nI_eq, nleT, nleF, nltT, nltF, neqT, neqF, nI_add, pk_mul, subN, divN, nI_clamp, mI1, wrH, wrM1, wrM2, wrowH, wrowM, bI0, bI1, kIi, kVi, kRi, kLi, kIx, kVx, Option.some.injEq, exists_eq_left', true_and, and_true, true_implies, false_implies, implies_true, not_true_eq_false, not_false_eq_true, true_or, or_true, false_or, or_false, forall_eq, iteT, iteF, LB_ hB]
      refine sp_swapWithNext (n := n) hB (by rw [hs b (by omega)]; exact hn0) hn (by omega) (t40_16 ?_)
      simp (disch := omega) only [vpT, nI_leI, nI_ltI, nI_eq, nleT, nleF, nltT, nltF, neqT, neqF, nI_add, pk_mul, subN, divN, nI_clamp, mI1, wrH, wrM1, wrM2, wrowH, wrowM, bI0, bI1, kIi, kVi, kRi, kLi, kIx, kVx, Option.some.injEq, exists_eq_left', true_and, and_true, true_implies, false_implies, implies_true, not_true_eq_false, not_false_eq_true, true_or, or_true, false_or, or_false, forall_eq, iteT, iteF, LB_ hB]
      refine ih _ _ ⟨_, rfl, rfl, fun q hq => ?_, by omega, ?_⟩
      · simp (disch := omega) only [vpT, nI_leI, nI_ltI, nI_eq, nleT, nleF, nltT, nltF, neqT, neqF, nI_add, pk_mul, subN, divN, nI_clamp, mI1, wrH, wrM1, wrM2, wrowH, wrowM, bI0, bI1, kIi, kVi, kRi, kLi, kIx, kVx, Option.some.injEq, exists_eq_left', true_and, and_true, true_implies, false_implies, implies_true, not_true_eq_false, not_false_eq_true, true_or, or_true, false_or, or_false, forall_eq, iteT, iteF, LB_ hB]
        exact hs q hq
      · have := swap I2 i i (by omega) h4
        intro q hq
        rw [this q hq, mvd_up hai]
    · rintro _ _ ⟨I2, rfl, rfl, hs, hai, h4⟩
      refine t40_6 ?_
      simp (disch := omega) only [vpT, nI_leI, nI_ltI, nI_eq, nleT, nleF, nltT, nltF, neqT, neqF, nI_add, pk_mul, subN, divN, nI_clamp, mI1, wrH, wrM1, wrM2, wrowH, wrowM, bI0, bI1, kIi, kVi, kRi, kLi, kIx, kVx, Option.some.injEq, exists_eq_left', true_and, and_true, true_implies, false_implies, implies_true, not_true_eq_false, not_false_eq_true, true_or, or_true, false_or, or_false, forall_eq, iteT, iteF, LB_ hB]
      exact down I2 hs p (Nat.le_refl _) (Or.inl rfl) hp h4
  · refine t40_6 ?_
    simp (disch := omega) only [vpT, nI_leI, nI_ltI, nI_eq, nleT, nleF, nltT, nltF, neqT, neqF, nI_add, pk_mul, subN, divN, nI_clamp, mI1, wrH, wrM1, wrM2, wrowH, wrowM, bI0, bI1, kIi, kVi, kRi, kLi, kIx, kVx, Option.some.injEq, exists_eq_left', true_and, and_true, true_implies, false_implies, implies_true, not_true_eq_false, not_false_eq_true, true_or, or_true, false_or, or_false, forall_eq, iteT, iteF, LB_ hB]
    exact down I same.rf a (by omega) (Or.inr (Nat.le_refl _)) ha (fun q hq => by rw [mvd_aa]; exact (bi_or hI hq).1)
--facts hR.1, LB_ hR.b, LT_ hR.t, LT_ hR.s
theorem sp_tryPlace {a p : Nat} (hR : LR L r) (hI : BI (bd I (r + 2)) n sn dn) (ha : a < n) (hp : p < n) (k : ∀ I2, same I I2 (fun q => q = r + 1) → ROW (I2 (r + 1)) (mvd (ordN (bd I (r + 2))) a p) n → G (L, I2, J, t)) : cal (d + 1) 48 [.ref r, .int (nI a), .int (nI p)] (L, I, J, t) (kV G X) := by
  have hn := hI.1.2
  have hn0 : I (r + 2) 0 = nI n := hI.1.1
  have e6 : ∀ j, j < n → I (r + 2 + 6) j = nI (ordN (bd I (r + 2)) j) := fun j hj => (bi_or hI hj).1
  refine e48 (t48_0 ?_)
  refine lg (n := n) (fun i l h => ∃ I2 fr, l = [some (.ref r), some (.int (nI a)), some (.int (nI p)), some (.int (nI fr)), some (.int (nI i))] ∧ h = (L, I2, J, t) ∧ same I I2 (fun q => q = r + 1) ∧ (∀ j, j < i → I2 (r + 1) j = nI (mvd (ordN (bd I (r + 2))) a p j)) ∧ (if fr = a then fr + 1 else fr) = sk a (if i ≤ p then i else i - 1)) ?_ ?_ (Nat.zero_le _) _ _ ⟨I, 0, rfl, rfl, same.rf, fun j hj => by omega, by unfold sk; simp only [Nat.zero_le, if_true]; split <;> split <;> omega⟩
  · rintro i hi ih _ _ ⟨I2, fr, rfl, rfl, hs, hd, hf⟩
    have i0 : I2 (r + 2) 0 = nI n := by rw [hs _ (by omega)]; exact hn0
    have i6 : ∀ j, j < n → I2 (r + 2 + 6) j = nI (ordN (bd I (r + 2)) j) := fun j hj => by rw [hs _ (by omega)]; exact e6 j hj
    have next : ∀ fr' v, v = nI (mvd (ordN (bd I (r + 2))) a p i) → (if fr' = a then fr' + 1 else fr') = sk a (if i + 1 ≤ p then i + 1 else i + 1 - 1) → Wp (cal d) kc_48 [] (kV G X) (5, [some (.ref r), some (.int (nI a)), some (.int (nI p)), some (.int (nI fr')), some (.int (nI (i + 1)))], [], (L, wr I2 (r + 1) i v, J, t)) := by
      intro fr' v hv hf'
      refine ih _ _ ⟨_, fr', rfl, rfl, fun q hq => ?_, fun j hj => ?_, hf'⟩
      · rw [wrM1 hq]; exact hs q hq
      · by_cases e : j = i
        · rw [wrH rfl e, e]; exact hv
        · rw [wrM2 e]; exact hd j (by omega)
    refine t48_5 ?_
    have hfr : fr < 12 := by
      unfold sk at hf
      by_cases e : fr = a
      · omega
      · rw [if_neg e] at hf
        split at hf <;> split at hf <;> omega
    by_cases e1 : i = p
    · have m1 : mvd (ordN (bd I (r + 2))) a p i = ordN (bd I (r + 2)) a := if_pos e1
      have s1 : sk a (if i + 1 ≤ p then i + 1 else i + 1 - 1) = sk a (if i ≤ p then i else i - 1) := by
        congr 1
        rw [if_neg (by omega), if_pos (by omega)]; omega
      by_cases e2 : fr = a
      · simp (disch := omega) only [vpT, nI_leI, nI_ltI, nI_eq, nleT, nleF, nltT, nltF, neqT, neqF, nI_add, pk_mul, subN, divN, nI_clamp, mI1, wrH, wrM1, wrM2, wrowH, wrowM, bI0, bI1, kIi, kVi, kRi, kLi, kIx, kVx, Option.some.injEq, exists_eq_left', true_and, and_true, true_implies, false_implies, implies_true, not_true_eq_false, not_false_eq_true, true_or, or_true, false_or, or_false, forall_eq, iteT, iteF, hR.1, LB_ hR.b, LT_ hR.t, LT_ hR.s, i0, i6]
        refine next _ _ (by rw [m1]) ?_
        rw [s1, ← hf, if_pos e2, if_neg (by omega)]
      · simp (disch := omega) only [vpT, nI_leI, nI_ltI, nI_eq, nleT, nleF, nltT, nltF, neqT, neqF, nI_add, pk_mul, subN, divN, nI_clamp, mI1, wrH, wrM1, wrM2, wrowH, wrowM, bI0, bI1, kIi, kVi, kRi, kLi, kIx, kVx, Option.some.injEq, exists_eq_left', true_and, and_true, true_implies, false_implies, implies_true, not_true_eq_false, not_false_eq_true, true_or, or_true, false_or, or_false, forall_eq, iteT, iteF, hR.1, LB_ hR.b, LT_ hR.t, LT_ hR.s, i0, i6]
        refine next _ _ (by rw [m1]) ?_
        rw [s1, ← hf]
    · have hm : (if i ≤ p then i else i - 1) = (if i < p then i else i - 1) := by
        by_cases h : i < p
        · rw [if_pos (by omega), if_pos h]
        · rw [if_neg (by omega), if_neg h]
      have m1 : mvd (ordN (bd I (r + 2))) a p i = ordN (bd I (r + 2)) (if fr = a then fr + 1 else fr) := by
        rw [hf, hm]; exact if_neg e1
      have hlt : (if fr = a then fr + 1 else fr) < n := by rw [hf]; exact sk_lt (by split <;> omega)
      have s2 : sk a (if i + 1 ≤ p then i + 1 else i + 1 - 1) = sk a ((if i ≤ p then i else i - 1) + 1) := by
        congr 1
        by_cases h : i < p
        · rw [if_pos (by omega), if_pos (by omega)]
        · rw [if_neg (by omega), if_neg (by omega)]; omega
      have s3 : ∀ m, (if sk a m + 1 = a then sk a m + 1 + 1 else sk a m + 1) = sk a (m + 1) := by
        intro m
        unfold sk
        by_cases h1 : m < a
        · rw [if_pos h1]
          by_cases h2 : m + 1 < a
          · rw [if_pos h2, if_neg (by omega)]
          · rw [if_neg h2, if_pos (by omega)]
        · rw [if_neg h1, if_neg (by omega), if_neg (by omega)]
      by_cases e2 : fr = a
      · rw [if_pos e2] at m1 hlt hf
        simp (disch := omega) only [vpT, nI_leI, nI_ltI, nI_eq, nleT, nleF, nltT, nltF, neqT, neqF, nI_add, pk_mul, subN, divN, nI_clamp, mI1, wrH, wrM1, wrM2, wrowH, wrowM, bI0, bI1, kIi, kVi, kRi, kLi, kIx, kVx, Option.some.injEq, exists_eq_left', true_and, and_true, true_implies, false_implies, implies_true, not_true_eq_false, not_false_eq_true, true_or, or_true, false_or, or_false, forall_eq, iteT, iteF, hR.1, LB_ hR.b, LT_ hR.t, LT_ hR.s, i0, i6]
        refine next _ _ (by rw [m1]) ?_
        rw [s2, show fr + 1 + 1 = sk a (if i ≤ p then i else i - 1) + 1 by omega]
        exact s3 _
      · rw [if_neg e2] at m1 hlt hf
        simp (disch := omega) only [vpT, nI_leI, nI_ltI, nI_eq, nleT, nleF, nltT, nltF, neqT, neqF, nI_add, pk_mul, subN, divN, nI_clamp, mI1, wrH, wrM1, wrM2, wrowH, wrowM, bI0, bI1, kIi, kVi, kRi, kLi, kIx, kVx, Option.some.injEq, exists_eq_left', true_and, and_true, true_implies, false_implies, implies_true, not_true_eq_false, not_false_eq_true, true_or, or_true, false_or, or_false, forall_eq, iteT, iteF, hR.1, LB_ hR.b, LT_ hR.t, LT_ hR.s, i0, i6]
        refine next _ _ (by rw [m1]) ?_
        rw [s2, hf]
        exact s3 _
  · rintro _ _ ⟨I2, fr, rfl, rfl, hs, hd, hf⟩
    have i0 : I2 (r + 2) 0 = nI n := by rw [hs _ (by omega)]; exact hn0
    refine t48_5 ?_
    simp (disch := omega) only [vpT, nI_leI, nI_ltI, nI_eq, nleT, nleF, nltT, nltF, neqT, neqF, nI_add, pk_mul, subN, divN, nI_clamp, mI1, wrH, wrM1, wrM2, wrowH, wrowM, bI0, bI1, kIi, kVi, kRi, kLi, kIx, kVx, Option.some.injEq, exists_eq_left', true_and, and_true, true_implies, false_implies, implies_true, not_true_eq_false, not_false_eq_true, true_or, or_true, false_or, or_false, forall_eq, iteT, iteF, hR.1, LB_ hR.b, LT_ hR.t, LT_ hR.s, i0]
    exact k I2 hs hd
end RUNWAY2
