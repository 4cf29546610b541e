/-! Orders, ranks, bits. -/
theorem pigeon : ∀ {n : Nat} {f : Nat → Nat}, (∀ i, i < n → f i < n) → (∀ i j, i < n → j < n → f i = f j → i = j) → ∀ v, v < n → ∃ i, i < n ∧ f i = v
  | 0, f, _, _, v, hv => absurd hv (Nat.not_lt_zero _)
  | n + 1, f, h1, h2, v, hv => by
    by_cases e : f n = v
    · exact ⟨n, by omega, e⟩
    · have hne : ∀ i, i < n → f i ≠ f n := fun i hi q => by have := h2 i n (by omega) (by omega) q; omega
      have hb : ∀ w, w < n + 1 → w ≠ f n → dn1 (f n) w < n := fun w hw hwn => by
        have := h1 n (by omega)
        unfold dn1; split <;> omega
      have hi : ∀ w u, w ≠ f n → u ≠ f n → dn1 (f n) w = dn1 (f n) u → w = u := fun w u a c q => by
        unfold dn1 at q; split at q <;> split at q <;> omega
      obtain ⟨i, hin, ei⟩ := pigeon (n := n) (f := fun i => dn1 (f n) (f i)) (fun i hi => hb _ (h1 i (by omega)) (hne i hi)) (fun i j a c q => h2 i j (by omega) (by omega) (hi _ _ (hne i a) (hne j c) q)) (dn1 (f n) v) (hb v hv (fun q => e q.symm))
      exact ⟨i, by omega, hi _ _ (hne i hin) (fun q => e q.symm) ei⟩
theorem cntB_mono {p q : Nat → Bool} : ∀ {n : Nat}, (∀ j, j < n → p j = true → q j = true) → cntB p n ≤ cntB q n
  | 0, _ => Nat.le_refl _
  | n + 1, h => by
    have h1 := cntB_mono (p := p) (q := q) (n := n) (fun j hj => h j (by omega))
    have h2 := h n (by omega)
    unfold cntB
    cases e : p n with
    | false => simp; omega
    | true => rw [h2 e]; simp; omega
theorem cntB_slt {p q : Nat → Bool} {n c : Nat} (h : ∀ j, j < n → p j = true → q j = true) (hc : c < n) (h1 : p c = false) (h2 : q c = true) : cntB p n < cntB q n := by
  have : ∀ n, c < n → (∀ j, j < n → p j = true → q j = true) → cntB p n < cntB q n := by
    intro n
    induction n with
    | zero => intro h; omega
    | succ n ih =>
      intro hc h
      by_cases e : c = n
      · subst e
        rw [cntB_f h1, cntB_t h2]
        have := cntB_mono (p := p) (q := q) (n := c) (fun j hj => h j (by omega))
        omega
      · have := ih (by omega) (fun j hj => h j (by omega))
        have h4 := h n (by omega)
        unfold cntB
        cases e : p n with
        | false => simp; omega
        | true => rw [h4 e]; simp; omega
  exact this n hc h
/-- hurried is 0 or 1 -/
def HU (S : BS) (n : Nat) : Prop := ∀ k, k < n → bHu S k = nI 0 ∨ bHu S k = nI 1
theorem nI01 : ¬ nI 0 = nI 1 := by decide
theorem nI10 : ¬ nI 1 = nI 0 := by decide
section RANK
variable {S : BS} {n : Nat}
/-- ahead, told apart -/
theorem ahd_iff {a c : Nat} (ha : bHu S a = nI 0 ∨ bHu S a = nI 1) (hc : bHu S c = nI 0 ∨ bHu S c = nI 1) : ahd S a c = true ↔ (bHu S a = nI 1 ∧ bHu S c = nI 0) ∨ (bHu S a = bHu S c ∧ ((bRe S a).toInt < (bRe S c).toInt ∨ (bRe S a).toInt = (bRe S c).toInt ∧ a < c)) := by
  unfold ahd
  by_cases h1 : bHu S a = bHu S c
  · rw [if_pos h1]
    by_cases h2 : bRe S a = bRe S c
    · rw [if_pos h2, decide_eq_true_iff]
      constructor
      · intro h; exact Or.inr ⟨h1, Or.inr ⟨by rw [h2], h⟩⟩
      · rintro (h | ⟨-, h | h⟩)
        · rw [h1, h.2] at h; exact absurd h.1 nI01
        · rw [h2] at h; omega
        · exact h.2
    · rw [if_neg h2, decide_eq_true_iff, Int32.lt_iff_toInt_lt]
      constructor
      · intro h; exact Or.inr ⟨h1, Or.inl h⟩
      · rintro (h | ⟨-, h | h⟩)
        · rw [h1, h.2] at h; exact absurd h.1 nI01
        · exact h
        · exact absurd (Int32.toInt_inj.mp h.1) h2
  · rw [if_neg h1, decide_eq_true_iff]
    constructor
    · intro h
      refine Or.inl ⟨h, ?_⟩
      rcases hc with q | q
      · exact q
      · exact absurd (h.trans q.symm) h1
    · rintro (h | h)
      · exact h.1
      · exact absurd h.1 h1
theorem ahd_tr {a c e : Nat} (ha : bHu S a = nI 0 ∨ bHu S a = nI 1) (hc : bHu S c = nI 0 ∨ bHu S c = nI 1) (he : bHu S e = nI 0 ∨ bHu S e = nI 1) (h1 : ahd S a c = true) (h2 : ahd S c e = true) : ahd S a e = true := by
  rw [ahd_iff ha hc] at h1
  rw [ahd_iff hc he] at h2
  rw [ahd_iff ha he]
  rcases h1 with ⟨a1, a2⟩ | ⟨a1, a2⟩
  · rcases h2 with ⟨b1, b2⟩ | ⟨b1, b2⟩
    · exact absurd (a2.symm.trans b1) nI01
    · exact Or.inl ⟨a1, b1.symm.trans a2⟩
  · rcases h2 with ⟨b1, b2⟩ | ⟨b1, b2⟩
    · exact Or.inl ⟨a1.trans b1, b2⟩
    · exact Or.inr ⟨a1.trans b1, by omega⟩
theorem ahd_tot {a c : Nat} (ha : bHu S a = nI 0 ∨ bHu S a = nI 1) (hc : bHu S c = nI 0 ∨ bHu S c = nI 1) (hne : a ≠ c) : ahd S a c = true ∨ ahd S c a = true := by
  rw [ahd_iff ha hc, ahd_iff hc ha]
  rcases ha with a1 | a1 <;> rcases hc with c1 | c1 <;> rw [a1, c1]
  · rcases Int.lt_trichotomy (bRe S a).toInt (bRe S c).toInt with h | h | h
    · exact Or.inl (Or.inr ⟨rfl, Or.inl h⟩)
    · rcases Nat.lt_or_ge a c with q | q
      · exact Or.inl (Or.inr ⟨rfl, Or.inr ⟨h, q⟩⟩)
      · exact Or.inr (Or.inr ⟨rfl, Or.inr ⟨h.symm, by omega⟩⟩)
    · exact Or.inr (Or.inr ⟨rfl, Or.inl h⟩)
  · exact Or.inr (Or.inl ⟨rfl, rfl⟩)
  · exact Or.inl (Or.inl ⟨rfl, rfl⟩)
  · rcases Int.lt_trichotomy (bRe S a).toInt (bRe S c).toInt with h | h | h
    · exact Or.inl (Or.inr ⟨rfl, Or.inl h⟩)
    · rcases Nat.lt_or_ge a c with q | q
      · exact Or.inl (Or.inr ⟨rfl, Or.inr ⟨h, q⟩⟩)
      · exact Or.inr (Or.inr ⟨rfl, Or.inr ⟨h.symm, by omega⟩⟩)
    · exact Or.inr (Or.inr ⟨rfl, Or.inl h⟩)
theorem rk_of_ahd (hu : HU S n) {a c : Nat} (ha : a < n) (hc : c < n) (h : ahd S a c = true) : rk S n a < rk S n c :=
  cntB_slt (fun j hj q => ahd_tr (hu j hj) (hu a ha) (hu c hc) q h) ha ahd_irr h
theorem rk_lt_iff (hu : HU S n) {a c : Nat} (ha : a < n) (hc : c < n) : rk S n a < rk S n c ↔ ahd S a c = true := by
  constructor
  · intro h
    by_cases e : a = c
    · subst e; omega
    · rcases ahd_tot (hu a ha) (hu c hc) e with q | q
      · exact q
      · have := rk_of_ahd hu hc ha q; omega
  · exact rk_of_ahd hu ha hc
theorem rk_inj (hu : HU S n) : ∀ i j, i < n → j < n → rk S n i = rk S n j → i = j := fun i j hi hj e => by
  by_cases h : i = j
  · exact h
  · rcases ahd_tot (hu i hi) (hu j hj) h with q | q
    · have := rk_of_ahd hu hi hj q; omega
    · have := rk_of_ahd hu hj hi q; omega
end RANK
/-! bits of a set -/
theorem bit_get : ∀ w, w < 1024 → ∀ c, c < 10 → (nI w >>> (nI c &&& 31)) &&& nI 1 = nI (if w.testBit c then 1 else 0) := by decide +kernel
theorem bit_set : ∀ w, w < 1024 → ∀ c, c < 10 → nI w ||| (nI 1 <<< (nI c &&& 31)) = nI (w ||| 2 ^ c) ∧ w ||| 2 ^ c < 1024 := by decide +kernel
/-- the set that a mask tells -/
def MK (x : Int32) (u : Nat → Bool) : Prop := ∃ w, w < 1024 ∧ x = nI w ∧ ∀ c, c < 10 → w.testBit c = u c
theorem MK_0 : MK (nI 0) (fun _ => false) := ⟨0, by decide, rfl, fun c _ => Nat.zero_testBit c⟩
theorem MK_or {x : Int32} {u : Nat → Bool} {c : Nat} (h : MK x u) (hc : c < 10) : MK (x ||| (nI 1 <<< (nI c &&& 31))) (fun e => u e || decide (e = c)) := by
  obtain ⟨w, hw, rfl, hu⟩ := h
  refine ⟨_, (bit_set w hw c hc).2, (bit_set w hw c hc).1, fun e he => ?_⟩
  rw [Nat.testBit_or, hu e he, Nat.testBit_two_pow]
  congr 1
  exact decide_eq_decide.mpr ⟨fun h => h.symm, fun h => h.symm⟩
theorem MK_get {x : Int32} {u : Nat → Bool} {c : Nat} (h : MK x u) (hc : c < 10) : (x >>> (nI c &&& 31)) &&& nI 1 = nI (if u c then 1 else 0) := by
  obtain ⟨w, hw, rfl, hu⟩ := h
  rw [bit_get w hw c hc, hu c hc]
theorem MK.congr' {x : Int32} {u v : Nat → Bool} (h : MK x u) (e : ∀ c, c < 10 → u c = v c) : MK x v := by
  obtain ⟨w, hw, rfl, hu⟩ := h
  exact ⟨w, hw, rfl, fun c hc => (hu c hc).trans (e c hc)⟩
