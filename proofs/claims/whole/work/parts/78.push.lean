/-! A push skips only what is no hole. -/
theorem nI_nat {x : Int32} {B : Nat} (h0 : 0 ≤ x.toInt) (h1 : x.toInt ≤ B) (hB : B < 2 ^ 31) : ∃ v, v ≤ B ∧ x = nI v := by
  obtain ⟨v, hv, e⟩ := nI_of (x := x) (fun q => by rw [Int32.lt_iff_toInt_lt] at q; have : (0 : Int32).toInt = 0 := rfl; omega)
  refine ⟨v, ?_, e⟩
  rw [e, nIi hv] at h1
  omega
/-- pushed from k to k', past times at which Q is not so -/
def Pshd (Q : Nat → Bool) (k k' : Nat) : Prop := k ≤ k' ∧ (k' = k → Q k = true) ∧ ∀ j, k ≤ j → j < k' → Q j = false
theorem Pshd.and {Q R : Nat → Bool} {k a b : Nat} (h1 : Pshd Q k a) (h2 : Pshd R a b) : Pshd (fun j => Q j && R j) k b := by
  obtain ⟨p1, p2, p3⟩ := h1
  obtain ⟨q1, q2, q3⟩ := h2
  refine ⟨by omega, fun e => ?_, fun j j1 j2 => ?_⟩
  · have ea : a = k := by omega
    have eb : b = a := by omega
    show (Q k && R k) = true
    rw [p2 ea, ← ea, q2 eb]
    rfl
  · show (Q j && R j) = false
    by_cases h : j < a
    · rw [p3 j j1 h]; rfl
    · rw [q3 j (by omega) j2, Bool.and_false]
theorem Pshd.congr {Q R : Nat → Bool} {k a : Nat} (h : Pshd Q k a) (e : ∀ j, Q j = R j) : Pshd R k a := ⟨h.1, fun q => by rw [← e]; exact h.2.1 q, fun j j1 j2 => by rw [← e]; exact h.2.2 j j1 j2⟩
section PUSH
variable {S : BS} {n sn dn T y : Nat} {o : Nat → Nat}
theorem pby_psh {z k B : Nat} {s : Int32} (hV : BV S n sn dn T) (hy : y < 8) (hz : z < 8) (s0 : 0 ≤ s.toInt) (s1 : s.toInt ≤ B) (hB : B ≤ 1100000) (hk : k ≤ 1200000) : ∃ k', k' ≤ max k (B + 99) ∧ pby S z s y (nI k) = nI k' ∧ Pshd (fun j => apt S y z (nI j) s) k k' := by
  obtain ⟨sv, hsv, rfl⟩ := nI_nat s0 s1 (by omega)
  obtain ⟨g1, hg1, e1⟩ := nI_nat (B := 99) (hV.2.2.1 (y * 8 + z) (by omega)).1 (hV.2.2.1 (y * 8 + z) (by omega)).2 (by decide)
  obtain ⟨g2, hg2, e2⟩ := nI_nat (B := 99) (hV.2.2.1 (z * 8 + y) (by omega)).1 (hV.2.2.1 (z * 8 + y) (by omega)).2 (by decide)
  have ap : ∀ j, j < 2000000 → apt S y z (nI j) (nI sv) = if j < sv then !decide (sv - j < g1) else !decide (j - sv < g2) := fun j hj => by
    unfold apt
    rw [e1, e2]
    by_cases h : j < sv
    · rw [if_pos (nI_lt h (by omega)), if_pos h, subN (by omega)]
      congr 1
      exact decide_eq_decide.mpr (nI_ltI (by omega) (by omega))
    · rw [if_neg (nI_nlt (by omega) (by omega)), if_neg h, subN (by omega)]
      congr 1
      exact decide_eq_decide.mpr (nI_ltI (by omega) (by omega))
  unfold pby
  rw [e1, e2, nI_add, nI_add]
  by_cases h : k < sv
  · rw [if_pos (nI_lt h (by omega))]
    by_cases h2 : sv < k + g1
    · rw [if_pos (nI_lt h2 (by omega))]
      refine ⟨sv, by omega, rfl, by omega, fun e => by omega, fun j j1 j2 => ?_⟩
      show apt S y z (nI j) (nI sv) = false
      rw [ap j (by omega), if_pos j2, decide_eq_true (by omega)]
      rfl
    · rw [if_neg (nI_nlt (by omega) (by omega))]
      refine ⟨k, by omega, rfl, Nat.le_refl _, fun _ => ?_, fun j j1 j2 => by omega⟩
      show apt S y z (nI k) (nI sv) = true
      rw [ap k (by omega), if_pos h, decide_eq_false (by omega)]
      rfl
  · rw [if_neg (nI_nlt (by omega) (by omega))]
    unfold mx
    by_cases h2 : k < sv + g2
    · rw [if_pos (nI_lt h2 (by omega))]
      refine ⟨sv + g2, by omega, rfl, by omega, fun e => by omega, fun j j1 j2 => ?_⟩
      show apt S y z (nI j) (nI sv) = false
      rw [ap j (by omega), if_neg (by omega), decide_eq_true (by omega)]
      rfl
    · rw [if_neg (nI_nlt (by omega) (by omega))]
      refine ⟨k, by omega, rfl, Nat.le_refl _, fun _ => ?_, fun j j1 j2 => by omega⟩
      show apt S y z (nI k) (nI sv) = true
      rw [ap k (by omega), if_neg h, decide_eq_false (by omega)]
      rfl
theorem opn_psh {k : Nat} (hI : BI S n sn dn) (hV : BV S n sn dn T) (hk : k ≤ 1999) : ∃ k', k' ≤ 1999 ∧ opn S (nI k) = nI k' ∧ Pshd (fun j => decide (opn S (nI j) = nI j)) k k' := by
  have h1 := opn_ge (S := S) (x := nI k)
  have h2 : (opn S (nI k)).toInt ≤ 1999 := opn_up hI hV (by omega) (by rw [nIi (by omega)]; omega)
  rw [Int32.le_iff_toInt_le, nIi (by omega)] at h1
  obtain ⟨k', hk', e⟩ := nI_nat (B := 1999) (by omega) h2 (by decide)
  rw [e, nIi (by omega)] at h1
  refine ⟨k', hk', e, by omega, fun q => decide_eq_true (by show opn S (nI k) = nI k; rw [e, q]), fun j j1 j2 => decide_eq_false fun q => ?_⟩
  have := opn_least hI ((opn_fix hI).mp q) (nI_le j1 (by omega))
  rw [e, nI_leI (by omega) (by omega)] at this
  omega
/-- all of them -/
theorem psh_all (hI : BI S n sn dn) (hV : BV S n sn dn T) (hT : T ≤ 900000) (ho : ∀ j, j < n → o j < n) (hy : y < 8) {k : Nat} (hk : k ≤ 1999) : ∃ k', k' < 2000000 ∧ pshP S o y dn (nI k) n = nI k' ∧ k ≤ k' ∧ (k' = k → isH S o y dn n (nI k) = true) ∧ ∀ j, k ≤ j → j < k' → j ≤ 1999 → isH S o y dn n (nI j) = false := by
  have hn := hI.1.2
  obtain ⟨k0, b0, e0, p0⟩ := opn_psh hI hV hk
  have hD : ∀ i, i ≤ dn → ∃ k1, k1 ≤ T + 4000 ∧ pshD S y (nI k) i = nI k1 ∧ Pshd (fun j => decide (opn S (nI j) = nI j) && allB (fun i => apt S y (bDo S i).toNatClampNeg (nI j) (bDS S i)) i) k k1 := by
    intro i
    induction i with
    | zero => intro _; exact ⟨k0, by omega, e0, p0.congr fun j => by show _ = (_ && true); rw [Bool.and_true]⟩
    | succ i ih =>
      intro hi
      obtain ⟨k1, c1, c2, c3⟩ := ih (by omega)
      have hd := hV.2.2.2.2.2 i (by omega)
      obtain ⟨k2, q1, q2, q3⟩ := pby_psh (B := T) (k := k1) (y := y) hV hy (dso_lt hI (show i < dn by omega)) hd.1 hd.2 (by omega) (by omega)
      refine ⟨k2, by omega, ?_, (c3.and q3).congr fun j => ?_⟩
      · show pby S _ _ y (pshD S y (nI k) i) = _
        rw [c2]; exact q2
      · show ((_ && allB _ i) && _) = (_ && (allB _ i && _))
        rw [Bool.and_assoc]
  obtain ⟨k1, c1, c2, c3⟩ := hD dn (Nat.le_refl _)
  have hP : ∀ i, i ≤ n → ∃ k2, k2 ≤ T + 4000 ∧ pshP S o y dn (nI k) i = nI k2 ∧ Pshd (fun j => (decide (opn S (nI j) = nI j) && allB (fun i => apt S y (bDo S i).toNatClampNeg (nI j) (bDS S i)) dn) && allB (fun q => apt S y (bSo S (o q)).toNatClampNeg (nI j) (slt S o q)) i) k k2 := by
    intro i
    induction i with
    | zero => intro _; exact ⟨k1, c1, c2, c3.congr fun j => by show _ = (_ && true); rw [Bool.and_true]⟩
    | succ i ih =>
      intro hi
      obtain ⟨k2, d1, d2, d3⟩ := ih (by omega)
      have sl := slt_up hI hV (k := i) (o := o) (by omega) (fun j hj => ho j (by omega))
      obtain ⟨k3, q1, q2, q3⟩ := pby_psh (B := T + 3100) (k := k2) (y := y) hV hy (so_lt hI (ho i (by omega))) sl.2.2 (by omega) (by omega) (by omega)
      refine ⟨k3, by omega, ?_, (d3.and q3).congr fun j => ?_⟩
      · show pby S _ _ y (pshP S o y dn (nI k) i) = _
        rw [d2]; exact q2
      · show ((_ && allB _ i) && _) = (_ && (allB _ i && _))
        rw [Bool.and_assoc]
  obtain ⟨k2, d1, d2, d3, d4, d5⟩ := hP n (Nat.le_refl _)
  have rev : ∀ j : Nat, allB (fun i => apt S y (bDo S i).toNatClampNeg (nI j) (bDS S i)) dn = allB (fun i => apt S y (bDo S (dn - 1 - i)).toNatClampNeg (nI j) (bDS S (dn - 1 - i))) dn := fun j => by
    have key : ∀ P : Nat → Bool, allB P dn = true ↔ allB (fun i => P (dn - 1 - i)) dn = true := fun P => by
      rw [allB_iff, allB_iff]
      refine ⟨fun h i hi => h _ (by omega), fun h i hi => ?_⟩
      have := h (dn - 1 - i) (by omega)
      rw [show dn - 1 - (dn - 1 - i) = i by omega] at this
      exact this
    have := key (fun i => apt S y (bDo S i).toNatClampNeg (nI j) (bDS S i))
    cases e1 : allB (fun i => apt S y (bDo S i).toNatClampNeg (nI j) (bDS S i)) dn
    · cases e2 : allB (fun i => apt S y (bDo S (dn - 1 - i)).toNatClampNeg (nI j) (bDS S (dn - 1 - i))) dn
      · rfl
      · rw [this.mpr e2] at e1; cases e1
    · exact (this.mp e1).symm
  have eq : ∀ j : Nat, isH S o y dn n (nI j) = ((decide (opn S (nI j) = nI j) && allB (fun i => apt S y (bDo S i).toNatClampNeg (nI j) (bDS S i)) dn) && allB (fun q => apt S y (bSo S (o q)).toNatClampNeg (nI j) (slt S o q)) n) := fun j => by
    unfold isH
    rw [rev, Bool.and_assoc]
  exact ⟨k2, by omega, d2, d3, fun e => by rw [eq]; exact d4 e, fun j j1 j2 _ => by rw [eq]; exact d5 j j1 j2⟩
end PUSH
