/-! The JVM's walk follows the smaller machine's: locals, and what doesn't look at the heap. -/
theorem lget_lt : ∀ {l : lvs} {i : Nat} {v : Value}, lget l i = some v → i < l.length
  | [], _, _, h => by simp [lget] at h
  | _ :: _, 0, _, _ => by simp
  | _ :: l, i + 1, _, h => by
    have := lget_lt (l := l) (i := i) h
    simp only [List.length_cons]
    omega
theorem sto_spec : ∀ {l : lvs} {i : Nat} {v : Value} {l' : lvs}, sto l i v = some l' → l'.length = l.length ∧ i < l.length ∧ lget l' i = some v ∧ (∀ k, k ≠ i → lget l' k = lget l k) ∧ ∀ k w, k + 1 = i → lget l k = some w → w.category = 1
  | [], _, _, _, h => by simp [sto] at h
  | x :: l, 0, v, l', h => by
    simp only [sto, Option.some.injEq] at h
    subst h
    refine ⟨rfl, by simp, rfl, fun k hk => ?_, fun k w hk _ => by omega⟩
    cases k with
    | zero => exact absurd rfl hk
    | succ k => rfl
  | x :: l, 1, v, l', h => by
    have key : ∀ y, sto l 0 v = some y → (x :: y) = l' → (∀ w, x = some w → w.category = 1) → l'.length = (x :: l).length ∧ 1 < (x :: l).length ∧ lget l' 1 = some v ∧ (∀ k, k ≠ 1 → lget l' k = lget (x :: l) k) ∧ ∀ k w, k + 1 = 1 → lget (x :: l) k = some w → w.category = 1 := by
      intro y hy e hx
      obtain ⟨h1, h2, h3, h4, -⟩ := sto_spec hy
      subst e
      refine ⟨by simp [h1], by simp; omega, h3, fun k hk => ?_, fun k w hk hw => ?_⟩
      · cases k with
        | zero => rfl
        | succ k => exact h4 k (by omega)
      · have : k = 0 := by omega
        subst this
        exact hx w hw
    unfold sto at h
    dsimp only at h
    split at h
    · simp at h
    · simp at h
    · rename_i n1 n2
      cases hy : sto l 0 v with
      | none => rw [hy] at h; simp at h
      | some y =>
        rw [hy] at h
        simp only [Option.some.injEq] at h
        refine key y hy h (fun w hw => ?_)
        subst hw
        cases w <;> first | rfl | exact absurd rfl (n1 _) | exact absurd rfl (n2 _)
  | x :: l, i + 2, v, l', h => by
    unfold sto at h
    dsimp only at h
    cases hy : sto l (i + 1) v with
    | none => rw [hy] at h; simp at h
    | some y =>
      rw [hy] at h
      simp only [Option.some.injEq] at h
      subst h
      obtain ⟨h1, h2, h3, h4, h5⟩ := sto_spec hy
      refine ⟨by simp [h1], by simp; omega, h3, fun k hk => ?_, fun k w hk hw => ?_⟩
      · cases k with
        | zero => rfl
        | succ k => exact h4 k (by omega)
      · cases k with
        | zero => omega
        | succ k => exact h5 k w (by omega) hw
theorem lget_set_none : ∀ {l : lvs} {i k : Nat} {v : Value}, lget (l.set i none) k = some v → k ≠ i ∧ lget l k = some v
  | [], _, _, _, h => by simp [lget] at h
  | x :: l, 0, 0, _, h => by simp [lget] at h
  | x :: l, 0, k + 1, _, h => ⟨by omega, h⟩
  | x :: l, i + 1, 0, _, h => ⟨by omega, h⟩
  | x :: l, i + 1, k + 1, _, h => by
    have := lget_set_none (l := l) (i := i) (k := k) h
    exact ⟨by omega, this.2⟩
theorem room8_sum : ∀ {s : List Value} {k : Nat}, room8 s k = true → (s.map fun v => v.category).sum ≤ k
  | [], _, _ => by simp
  | v :: s, k, h => by
    unfold room8 at h
    cases v <;> dsimp only at h <;> split at h <;> first
      | (simp at h; done)
      | (have h9 := room8_sum h; rw [List.map_cons, List.sum_cons]; show 1 + _ ≤ _; omega)
      | (have h9 := room8_sum h; rw [List.map_cons, List.sum_cons]; show 2 + _ ≤ _; omega)
theorem icn_ofInt (n : Int) : Int32.ofInt n = Int32.ofInt n := rfl
/-- the listed locals -/
def lvl (l : lvs) : List (Nat × Value) := (List.range l.length).filterMap fun i => (lget l i).map fun v => (i, v)
theorem mem_lvl {l : lvs} {i : Nat} {v : Value} : (i, v) ∈ lvl l ↔ lget l i = some v := by
  unfold lvl
  rw [List.mem_filterMap]
  constructor
  · rintro ⟨a, -, h⟩
    cases hg : lget l a with
    | none => rw [hg] at h; simp at h
    | some w => rw [hg] at h; simp at h; obtain ⟨rfl, rfl⟩ := h; exact hg
  · intro h
    exact ⟨i, List.mem_range.mpr (lget_lt h), by rw [h]; rfl⟩
def lvR (ls : Array Slot) (nL : Nat) (l : lvs) : Prop := l.length = nL ∧ lv_has ls nL (lvl l)
theorem lvR_at {ls : Array Slot} {nL : Nat} {l : lvs} (h : lvR ls nL l) {i : Nat} {v : Value} (hi : lget l i = some v) : ls[i]? = some (.val v) := h.2.2.2 (i, v) (mem_lvl.mpr hi)
theorem lvR_sto {ls' : Array Slot} {nL : Nat} {l l' : lvs} {i : Nat} {v : Value} (hl : l.length = nL) (hs : sto l i v = some l') (h : lv_has ls' nL ((i, v) :: (lvl l).filter (fun q => !(q.1 == i) && !(q.1 + 1 == i && q.2.category == 2)))) : lvR ls' nL l' := by
  obtain ⟨h1, h2, h3, h4, h5⟩ := sto_spec hs
  refine ⟨h1.trans hl, h.1, h.2.1, fun q hq => h.2.2 q ?_⟩
  obtain ⟨k, w⟩ := q
  have hk := mem_lvl.mp hq
  by_cases e : k = i
  · subst e
    rw [h3] at hk
    cases hk
    exact List.mem_cons_self
  · rw [h4 k e] at hk
    refine List.mem_cons_of_mem _ (List.mem_filter.mpr ⟨mem_lvl.mpr hk, ?_⟩)
    simp only [Bool.and_eq_true, Bool.not_eq_true', beq_eq_false_iff_ne, ne_eq, Bool.and_eq_false_iff]
    refine ⟨e, ?_⟩
    by_cases e2 : k + 1 = i
    · exact Or.inr (by rw [h5 k w e2 hk]; decide)
    · exact Or.inl e2
theorem lvR_sto2 {ls' : Array Slot} {nL : Nat} {l l' : lvs} {i : Nat} {v : Value} (hl : l.length = nL) (hs : sto2 l i v = some l') (h : lv_has ls' nL ((i, v) :: (lvl l).filter (fun q => !(q.1 == i) && (!(q.1 == i + 1) && !(q.1 + 1 == i && q.2.category == 2))))) : lvR ls' nL l' := by
  unfold sto2 at hs
  cases hy : sto l i v with
  | none => rw [hy] at hs; simp at hs
  | some y =>
    rw [hy] at hs
    dsimp only at hs
    split at hs
    · cases hs
      obtain ⟨h1, h2, h3, h4, h5⟩ := sto_spec hy
      refine ⟨by simp [h1, hl], h.1, h.2.1, fun q hq => h.2.2 q ?_⟩
      obtain ⟨k, w⟩ := q
      obtain ⟨e0, hk⟩ := lget_set_none (mem_lvl.mp hq)
      by_cases e : k = i
      · subst e
        rw [h3] at hk
        cases hk
        exact List.mem_cons_self
      · rw [h4 k e] at hk
        refine List.mem_cons_of_mem _ (List.mem_filter.mpr ⟨mem_lvl.mpr hk, ?_⟩)
        simp only [Bool.and_eq_true, Bool.not_eq_true', beq_eq_false_iff_ne, ne_eq, Bool.and_eq_false_iff]
        refine ⟨e, e0, ?_⟩
        by_cases e2 : k + 1 = i
        · exact Or.inr (by rw [h5 k w e2 hk]; decide)
        · exact Or.inl e2
    · cases hs
theorem sto2_lt {l l' : lvs} {i : Nat} {v : Value} (hs : sto2 l i v = some l') : i + 1 < l.length := by
  unfold sto2 at hs
  cases hy : sto l i v with
  | none => rw [hy] at hs; simp at hs
  | some y =>
    rw [hy] at hs
    dsimp only at hs
    split at hs
    · assumption
    · cases hs
