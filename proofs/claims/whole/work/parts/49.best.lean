/-! Orders that are allowed (and hold): the best one, how many. -/
def LX (o o' : Nat → Nat) (n : Nat) : Prop := (∀ j, j < n → o j = o' j) ∨ ∃ j, j < n ∧ (∀ i, i < j → o i = o' i) ∧ o j < o' j
def Leaf (S : BS) (n f sh : Nat) (hd : Bool) (o : Nat → Nat) : Prop := (∀ j, j < n → o j < n) ∧ (∀ i j, i < n → j < n → o i = o j → i = j) ∧ (∀ j, j < n → if j < f then o j = ordN S j else near S n sh (o j) j = true) ∧ (hd = true → ∀ j, j < n → slt S o j ≤ bLa S (o j))
def Bst (P : (Nat → Nat) → Prop) (C : (Nat → Nat) → Int32) (n : Nat) (L0 : Int32) (f0 : rw1) (L1 : Int32) (f1 : rw1) : Prop := (L1 = L0 ∧ (∀ k, k < n → f1 k = f0 k) ∧ ∀ o, P o → L0 ≤ C o) ∨ ∃ o, P o ∧ C o < L0 ∧ L1 = C o ∧ ROW f1 o n ∧ ∀ o', P o' → C o ≤ C o' ∧ (C o' = C o → LX o o' n)
/-- used by the first k -/
def usd (o : Nat → Nat) (k c : Nat) : Bool := anyB (fun j => decide (o j = c)) k
theorem usd_iff {o : Nat → Nat} {k c : Nat} : usd o k c = true ↔ ∃ j, j < k ∧ o j = c := by
  unfold usd
  rw [anyB_iff]
  exact ⟨fun ⟨j, h1, h2⟩ => ⟨j, h1, of_decide_eq_true h2⟩, fun ⟨j, h1, h2⟩ => ⟨j, h1, decide_eq_true h2⟩⟩
theorem usd_f {o : Nat → Nat} {k c : Nat} : usd o k c = false ↔ ∀ j, j < k → o j ≠ c := by
  constructor
  · intro h j hj e
    rw [usd_iff.mpr ⟨j, hj, e⟩] at h
    cases h
  · intro h
    cases e : usd o k c with
    | false => rfl
    | true =>
      obtain ⟨j, h1, h2⟩ := usd_iff.mp e
      exact absurd h2 (h j h1)
theorem usd_succ {o : Nat → Nat} {k c : Nat} : usd o (k + 1) c = (usd o k c || decide (c = o k)) := by
  show (anyB (fun j => decide (o j = c)) k || decide (o k = c)) = _
  unfold usd
  rw [show decide (o k = c) = decide (c = o k) from decide_eq_decide.mpr ⟨fun h => h.symm, fun h => h.symm⟩]
theorem usd_congr {o o' : Nat → Nat} {k c : Nat} (h : ∀ j, j < k → o j = o' j) : usd o k c = usd o' k c := by
  cases e : usd o' k c with
  | true =>
    obtain ⟨j, h1, h2⟩ := usd_iff.mp e
    exact usd_iff.mpr ⟨j, h1, (h j h1).trans h2⟩
  | false => exact usd_f.mpr fun j hj q => usd_f.mp e j hj ((h j hj).symm.trans q)
/-- the order with c at place k -/
def upk (o : Nat → Nat) (k c j : Nat) : Nat := if j = k then c else o j
theorem upk_e {o : Nat → Nat} {k c : Nat} : upk o k c k = c := if_pos rfl
theorem upk_n {o : Nat → Nat} {k c j : Nat} (h : j ≠ k) : upk o k c j = o j := if_neg h
theorem upk_lt {o : Nat → Nat} {k c : Nat} : ∀ j, j < k → o j = upk o k c j := fun j hj => (upk_n (by omega)).symm
section BEST
variable {P P' : (Nat → Nat) → Prop} {C : (Nat → Nat) → Int32} {n : Nat} {L0 L1 L2 : Int32} {f0 f1 f2 : rw1}
theorem Bst.no (h : ∀ o, ¬ P o) : Bst P C n L0 f0 L0 f0 := Or.inl ⟨rfl, fun _ _ => rfl, fun o q => absurd q (h o)⟩
theorem Bst.iff (e : ∀ o, P o ↔ P' o) (h : Bst P C n L0 f0 L1 f1) : Bst P' C n L0 f0 L1 f1 := by
  rcases h with ⟨a, b, c⟩ | ⟨o, a, b, c, d, g⟩
  · exact Or.inl ⟨a, b, fun o q => c o ((e o).mpr q)⟩
  · exact Or.inr ⟨o, (e o).mp a, b, c, d, fun o' q => g o' ((e o').mpr q)⟩
theorem Bst.seq (h1 : Bst P C n L0 f0 L1 f1) (h2 : Bst P' C n L1 f1 L2 f2) (hx : ∀ o o', P o → P' o' → LX o o' n) : Bst (fun o => P o ∨ P' o) C n L0 f0 L2 f2 := by
  rcases h1 with ⟨a, b, c⟩ | ⟨o, a, b, c, d, g⟩
  · rcases h2 with ⟨a', b', c'⟩ | ⟨o', a', b', c', d', g'⟩
    · exact Or.inl ⟨a'.trans a, fun k hk => (b' k hk).trans (b k hk), fun o q => q.elim (c o) (fun q => a ▸ c' o q)⟩
    · rw [a] at b'
      refine Or.inr ⟨o', Or.inr a', b', c', d', fun o q => q.elim (fun q => ?_) (g' o)⟩
      have := c o q
      exact ⟨Int32.le_trans (Int32.le_of_lt b') this, fun e => absurd (Int32.lt_of_lt_of_le b' this) (by rw [e]; exact Int32.lt_irrefl)⟩
  · rcases h2 with ⟨a', b', c'⟩ | ⟨o', a', b', c', d', g'⟩
    · refine Or.inr ⟨o, Or.inl a, b, a'.trans c, fun k hk => (b' k hk).trans (d k hk), fun o' q => q.elim (g o') (fun q => ?_)⟩
      have := c' o' q
      rw [c] at this
      exact ⟨this, fun _ => hx o o' a q⟩
    · rw [c] at b'
      refine Or.inr ⟨o', Or.inr a', Int32.lt_trans b' b, c', d', fun o2 q => q.elim (fun q => ?_) (g' o2)⟩
      have := (g o2 q).1
      exact ⟨Int32.le_trans (Int32.le_of_lt b') this, fun e => absurd (Int32.lt_of_lt_of_le b' this) (by rw [e]; exact Int32.lt_irrefl)⟩
/-- two searches find the same -/
theorem LX_anti {o o' : Nat → Nat} (h1 : LX o o' n) (h2 : LX o' o n) : ∀ j, j < n → o j = o' j := by
  rcases h1 with h | ⟨j, hj, a, b⟩
  · exact h
  · rcases h2 with h | ⟨i, hi, a', b'⟩
    · exact fun q hq => (h q hq).symm
    · exfalso
      rcases Nat.lt_trichotomy i j with q | q | q
      · have := a i q; omega
      · subst q; omega
      · have := a' j q; omega
theorem Bst.same {M0 M1 : Int32} {g0 g1 : rw1} (h1 : Bst P C n L0 f0 L1 f1) (h2 : Bst P C n M0 g0 M1 g1) (hL : ∀ o, P o → C o < L0) (hM : ∀ o, P o → C o < M0) : (L1 = L0 ∧ M1 = M0 ∧ ∀ o, ¬ P o) ∨ (L1 = M1 ∧ L1 < L0 ∧ M1 < M0 ∧ (∃ o, P o ∧ ROW f1 o n ∧ ROW g1 o n ∧ L1 = C o)) := by
  rcases h1 with ⟨a, b, c⟩ | ⟨o, a, b, c, d, g⟩
  · have no : ∀ o, ¬ P o := fun o q => absurd (Int32.lt_of_lt_of_le (hL o q) (c o q)) Int32.lt_irrefl
    rcases h2 with ⟨a', -, -⟩ | ⟨o', q, -⟩
    · exact Or.inl ⟨a, a', no⟩
    · exact absurd q (no o')
  · rcases h2 with ⟨a', b', c'⟩ | ⟨o', a', b', c', d', g'⟩
    · exact absurd (Int32.lt_of_lt_of_le (hM o a) (c' o a)) Int32.lt_irrefl
    · have e : C o = C o' := le_antisymm' (g o' a').1 (g' o a).1
      have ee := LX_anti ((g o' a').2 e.symm) ((g' o a).2 e)
      exact Or.inr ⟨by rw [c, c', e], by rw [c]; exact b, by rw [c']; exact b', o, a, d, fun k hk => by rw [d' k hk, ee k hk], c⟩
end BEST
/-- leaves behind the first k of o0 -/
def Sub (S : BS) (n f sh : Nat) (hd : Bool) (k : Nat) (o0 o : Nat → Nat) : Prop := Leaf S n f sh hd o ∧ ∀ j, j < k → o j = o0 j
section SUB
variable {S : BS} {n f sh k : Nat} {hd : Bool} {o0 o : Nat → Nat}
theorem slt_pre {k j : Nat} (h : ∀ i, i < k → o i = o0 i) (hj : j < k) : slt S o j = slt S o0 j := slt_congr fun i hi => h i (by omega)
theorem Leaf.congr {o' : Nat → Nat} (h : Leaf S n f sh hd o) (e : ∀ j, j < n → o j = o' j) : Leaf S n f sh hd o' := by
  obtain ⟨h1, h2, h3, h4⟩ := h
  refine ⟨fun j hj => by rw [← e j hj]; exact h1 j hj, fun i j hi hj q => h2 i j hi hj (by rw [e i hi, e j hj]; exact q), fun j hj => ?_, fun q j hj => ?_⟩
  · rw [← e j hj]; exact h3 j hj
  · rw [← e j hj, ← slt_congr (o := o) (fun i hi => e i (by omega))]; exact h4 q j hj
/-- all are somewhere -/
theorem Leaf.at {c : Nat} (h : Leaf S n f sh hd o) (hc : c < n) : ∃ j, j < n ∧ o j = c := pigeon h.1 h.2.1 c hc
theorem Sub.split : Sub S n f sh hd k o0 o ∧ (∃ c, c < n ∧ o k = c) ↔ ∃ c, c < n ∧ Sub S n f sh hd (k + 1) (upk o0 k c) o := by
  constructor
  · rintro ⟨⟨h1, h2⟩, c, hc, e⟩
    refine ⟨c, hc, h1, fun j hj => ?_⟩
    by_cases q : j = k
    · rw [q, e, upk_e]
    · rw [upk_n q]; exact h2 j (by omega)
  · rintro ⟨c, hc, h1, h2⟩
    refine ⟨⟨h1, fun j hj => ?_⟩, c, hc, ?_⟩
    · rw [h2 j (by omega), upk_n (by omega)]
    · rw [h2 k (by omega), upk_e]
/-- one left over whose places are all gone: no leaf -/
theorem Sub.late {c : Nat} (h : Sub S n f sh hd k o0 o) (hf : f ≤ k) (hc : c < n) (hu : usd o0 k c = false) : k ≤ rk S n c + sh := by
  obtain ⟨j, hj, e⟩ := h.1.at hc
  have hjk : k ≤ j := by
    refine Nat.le_of_not_lt fun q => ?_
    rw [h.2 j q] at e
    exact usd_f.mp hu j q e
  have := h.1.2.2.1 j hj
  rw [if_neg (by omega), e] at this
  have := of_decide_eq_true this
  omega
end SUB
