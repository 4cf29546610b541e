/-! Slack: both ways come to the same. -/
def opnd (S : BS) (sn : Nat) (z : Int32) : Prop := ∀ i, i < sn → ¬ (bSF S i ≤ z ∧ z < bST S i)
section OPN
variable {S : BS} {n sn dn : Nat} {x z : Int32}
theorem hop_least {i : Nat} (h : ¬ (bSF S i ≤ z ∧ z < bST S i)) (hx : x ≤ z) : hop S i x ≤ z := by
  unfold hop
  split
  · rename_i q
    exact Int32.not_lt.mp fun w => h ⟨Int32.le_trans q.1 hx, w⟩
  · exact hx
theorem pass_least {m : Nat} (h : opnd S m z) : ∀ {k : Nat}, k ≤ m → ∀ {x : Int32}, x ≤ z → pass S k x ≤ z
  | 0, _, x, hx => hx
  | k + 1, hk, x, hx => hop_least (h k (by omega)) (pass_least h (by omega) hx)
theorem rounds_least {m : Nat} (h : opnd S m z) : ∀ {r : Nat} {x : Int32}, x ≤ z → rounds S m r x ≤ z
  | 0, x, hx => hx
  | r + 1, x, hx => pass_least h (Nat.le_refl _) (rounds_least h hx)
theorem opn_sn (hI : BI S n sn dn) (x : Int32) : opn S x = rounds S sn sn x := by
  unfold opn
  rw [show (bF S 8).toNatClampNeg = sn by rw [hI.2.1.1]; exact nI_clamp (by have := hI.2.1.2; omega)]
theorem opn_opnd (hI : BI S n sn dn) : opnd S sn (opn S x) := by
  rw [opn_sn hI]
  exact pass_fix.mp rounds_rest
theorem opn_least (hI : BI S n sn dn) (h : opnd S sn z) (hx : x ≤ z) : opn S x ≤ z := by
  rw [opn_sn hI]
  exact rounds_least h hx
theorem opn_fix (hI : BI S n sn dn) : opn S x = x ↔ opnd S sn x :=
  ⟨fun e => by have := opn_opnd hI (x := x); rw [e] at this; exact this, fun h => le_antisymm' (opn_least hI h (Int32.le_refl _)) opn_ge⟩
theorem opn_mono {y : Int32} (hI : BI S n sn dn) (h : x ≤ y) : opn S x ≤ opn S y := opn_least hI (opn_opnd hI) (Int32.le_trans h opn_ge)
theorem opn_idem (hI : BI S n sn dn) : opn S (opn S x) = opn S x := (opn_fix hI).mpr (opn_opnd hI)
end OPN
section SLACK
variable {S : BS} {n sn dn T p c : Nat} {o : Nat → Nat} {x : Int32}
theorem dn0_setRe {s i : Nat} : dn0 (setRe S c x) s i = dn0 S s i := by
  induction i with
  | zero => rfl
  | succ i ih =>
    show mx (dn0 (setRe S c x) s i) _ = mx (dn0 S s i) _
    rw [ih]
    rfl
theorem opn_setRe {y : Int32} : opn (setRe S c x) y = opn S y := by
  have h1 : ∀ k y, pass (setRe S c x) k y = pass S k y := by
    intro k
    induction k with
    | zero => intro y; rfl
    | succ k ih =>
      intro y
      show hop (setRe S c x) k (pass (setRe S c x) k y) = hop S k (pass S k y)
      rw [ih]
      rfl
  have h2 : ∀ m r y, rounds (setRe S c x) m r y = rounds S m r y := by
    intro m r
    induction r with
    | zero => intro y; rfl
    | succ r ih =>
      intro y
      show pass (setRe S c x) m (rounds (setRe S c x) m r y) = pass S m (rounds S m r y)
      rw [ih, h1]
  exact h2 _ _ _
/-- ready at the slot itself: nothing moves -/
theorem slk_same (hI : BI S n sn dn) (hn : n ≤ 10) (hi : ∀ i j, i < n → j < n → o i = o j → i = j) (hp : p < n) (hc : o p = c) (hx : x = slt S o p) : ∀ k, k ≤ n → (∀ s, lst (setRe S c x) o k s = lst S o k s) ∧ ∀ j, j < k → slt (setRe S c x) o j = slt S o j := by
  intro k
  induction k with
  | zero => intro _; exact ⟨fun s => dn0_setRe, fun j hj => by omega⟩
  | succ k ih =>
    intro hk
    obtain ⟨h1, h2⟩ := ih (by omega)
    have hs : slt (setRe S c x) o k = slt S o k := by
      show opn (setRe S c x) (mx2 (bRe (setRe S c x) (o k)) (lst (setRe S c x) o k (bSo S (o k)).toNatClampNeg)) = _
      rw [opn_setRe, h1]
      show opn S (mx2 (if o k = c then x else bRe S (o k)) _) = _
      by_cases e : k = p
      · subst e
        rw [if_pos hc, hx]
        have hle : lst S o k (bSo S (o k)).toNatClampNeg ≤ slt S o k := Int32.le_trans (mx2_le.mp (Int32.le_refl _)).2 opn_ge
        rw [show mx2 (slt S o k) (lst S o k (bSo S (o k)).toNatClampNeg) = slt S o k from le_ext fun y => by rw [mx2_le]; exact ⟨fun q => q.1, fun q => ⟨q, Int32.le_trans hle q⟩⟩]
        exact opn_idem hI
      · rw [if_neg (fun q => e (hi k p (by omega) hp (q.trans hc.symm)))]
        rfl
    refine ⟨fun s => ?_, fun j hj => ?_⟩
    · show mx2 (slt (setRe S c x) o k + _) (lst (setRe S c x) o k s) = mx2 (slt S o k + _) (lst S o k s)
      rw [hs, h1]
      rfl
    · by_cases e : j = k
      · rw [e]; exact hs
      · exact h2 j (by omega)
/-- a later one: nobody is sooner -/
theorem slk_mono (hI : BI S n sn dn) (hV : BV S n sn dn T) (hV' : BV (setRe S c x) n sn dn (T + 3300)) (hT : T ≤ 900000) (ho : ∀ j, j < n → o j < n) (hx : bRe S c ≤ x) : ∀ k, k ≤ n → (∀ s, s < 8 → lst S o k s ≤ lst (setRe S c x) o k s) ∧ ∀ j, j < k → slt S o j ≤ slt (setRe S c x) o j := by
  have hn := hI.1.2
  have hI' : BI (setRe S c x) n sn dn := hI
  intro k
  induction k with
  | zero => intro _; exact ⟨fun s _ => by show dn0 S s _ ≤ dn0 (setRe S c x) s _; rw [dn0_setRe]; exact Int32.le_refl _, fun j hj => by omega⟩
  | succ k ih =>
    intro hk
    obtain ⟨h1, h2⟩ := ih (by omega)
    have hok := ho k (by omega)
    have hs : slt S o k ≤ slt (setRe S c x) o k := by
      show opn S _ ≤ opn (setRe S c x) (mx2 (bRe (setRe S c x) (o k)) (lst (setRe S c x) o k (bSo S (o k)).toNatClampNeg))
      rw [opn_setRe]
      refine opn_mono hI ?_
      have m1 := mx2_le.mp (Int32.le_refl (mx2 (bRe (setRe S c x) (o k)) (lst (setRe S c x) o k (bSo S (o k)).toNatClampNeg)))
      refine mx2_le.mpr ⟨Int32.le_trans ?_ m1.1, Int32.le_trans (h1 _ (so_lt hI hok)) m1.2⟩
      show bRe S (o k) ≤ if o k = c then x else bRe S (o k)
      split
      · rename_i e; rw [e]; exact hx
      · exact Int32.le_refl _
    refine ⟨fun s hs8 => ?_, fun j hj => ?_⟩
    · show mx2 (slt S o k + bGa S ((bSo S (o k)).toNatClampNeg * 8 + s)) (lst S o k s) ≤ mx2 (slt (setRe S c x) o k + bGa S ((bSo S (o k)).toNatClampNeg * 8 + s)) (lst (setRe S c x) o k s)
      have m1 := mx2_le.mp (Int32.le_refl (mx2 (slt (setRe S c x) o k + bGa S ((bSo S (o k)).toNatClampNeg * 8 + s)) (lst (setRe S c x) o k s)))
      refine mx2_le.mpr ⟨Int32.le_trans ?_ m1.1, Int32.le_trans (h1 s hs8) m1.2⟩
      have u1 := slt_up hI hV (k := k) (o := o) (by omega) (fun j hj => ho j (by omega))
      have u2 := slt_up hI' hV' (k := k) (o := o) (by omega) (fun j hj => ho j (by omega))
      have u3 := hV.2.2.1 ((bSo S (o k)).toNatClampNeg * 8 + s) (by have := so_lt hI hok; omega)
      rw [Int32.le_iff_toInt_le] at hs ⊢
      rw [addI (by omega) (by omega), addI (by omega) (by omega)]
      omega
    · by_cases e : j = k
      · rw [e]; exact hs
      · exact h2 j (by omega)
theorem slk_all {P : Nat → Bool} (h : ∀ e, e ≤ 99 → P e = false) : ∀ k, k ≤ 99 → slkM P k = -1 := by
  intro k
  induction k with
  | zero => intro _; unfold slkM; rw [h 0 (by omega)]; rfl
  | succ k ih => intro hk; unfold slkM; rw [h (k + 1) hk]; exact ih (by omega)
theorem slk_eq {P : Nat → Bool} (h : P 0 = true) : ∀ k, slkM P k = slk P k := by
  intro k
  induction k with
  | zero => unfold slkM slk; rw [h]; rfl
  | succ k ih => unfold slkM slk; rw [ih]
theorem slack_same (hV : VB S n sn dn T) (hT : T ≤ 900000) (hp : p < n) : slkM (fun e => hold (setRe S (ordN S p) (slt S (ordN S) p + nI e)) (ordN S) n) 99 = slkR S n p := by
  obtain ⟨hI, hP, hBV, -, -⟩ := hV
  have hn := hI.1.2
  have hol := fun j hj => (BI_or hI j hj).2
  unfold slkR
  have sl := slt_up hI hBV (k := p) (o := ordN S) (by omega) (fun j hj => hol j (by omega))
  by_cases h : hold S (ordN S) n = true
  · rw [if_pos h]
    refine slk_eq ?_ 99
    have e0 : slt S (ordN S) p + nI 0 = slt S (ordN S) p := by rw [show nI 0 = (0 : Int32) from rfl, Int32.add_zero]
    have hh := (slk_same (x := slt S (ordN S) p + nI 0) hI hn hP hp rfl e0 n (Nat.le_refl _)).2
    show hold _ _ _ = true
    refine allB_iff.mpr fun j hj => ?_
    rw [hh j hj]
    exact allB_iff.mp h j hj
  · rw [if_neg h]
    refine slk_all (fun e he => ?_) 99 (Nat.le_refl _)
    have hx : (slt S (ordN S) p + nI e).toInt = (slt S (ordN S) p).toInt + e := by
      have := hBV.1
      rw [addI (by rw [nIi (by omega)]; omega) (by rw [nIi (by omega)]; omega), nIi (by omega)]
    have hV' : BV (setRe S (ordN S p) (slt S (ordN S) p + nI e)) n sn dn (T + 3300) := by
      obtain ⟨v0, v1, v2, v3, v4, v5⟩ := hBV
      refine ⟨by omega, fun k hk => ?_, v2, v3, by show 0 ≤ (bF S 13).toInt ∧ (bF S 13).toInt ≤ _; omega, fun k hk => by have := v5 k hk; show 0 ≤ (bDS S k).toInt ∧ (bDS S k).toInt ≤ _; omega⟩
      have := v1 k hk
      show 0 ≤ (if k = ordN S p then slt S (ordN S) p + nI e else bRe S k).toInt ∧ (if k = ordN S p then slt S (ordN S) p + nI e else bRe S k).toInt ≤ ((T + 3300 : Nat) : Int) ∧ 0 ≤ (bWe S k).toInt ∧ (bWe S k).toInt ≤ 20
      split
      · rw [hx]; omega
      · omega
    have hm := (slk_mono hI hBV hV' hT hol (by rw [Int32.le_iff_toInt_le, hx]; omega) n (Nat.le_refl _)).2
    cases q : hold (setRe S (ordN S p) (slt S (ordN S) p + nI e)) (ordN S) n with
    | false => rfl
    | true =>
      refine absurd (allB_iff.mpr fun j hj => ?_) h
      have := of_decide_eq_true (allB_iff.mp q j hj)
      exact decide_eq_true (Int32.le_trans (hm j hj) this)
end SLACK
