/-! What stays so: boards that are in order. -/
/-- a board that is in order; times up to T -/
def VB (S : BS) (n sn dn T : Nat) : Prop := BI S n sn dn ∧ PI S n ∧ BV S n sn dn T ∧ HU S n ∧ ∃ sh, sh ≤ 3 ∧ bF S 11 = nI sh
theorem BV.up {S : BS} {n sn dn T T' : Nat} (h : BV S n sn dn T) (h1 : T ≤ T') (h2 : T' ≤ 1000000) : BV S n sn dn T' := by
  obtain ⟨a, b, c, d, e, f⟩ := h
  exact ⟨h2, fun k hk => by have := b k hk; omega, c, d, by omega, fun k hk => by have := f k hk; omega⟩
theorem VB.up {S : BS} {n sn dn T T' : Nat} (h : VB S n sn dn T) (h1 : T ≤ T') (h2 : T' ≤ 1000000) : VB S n sn dn T' := ⟨h.1, h.2.1, h.2.2.1.up h1 h2, h.2.2.2⟩
theorem nIi {k : Nat} (h : k < 2 ^ 31) : (nI k).toInt = k := nI_toInt h
section KEEP
variable {S S' : BS} {n sn dn T : Nat}
theorem VB.add {so re we : Nat} {la : Int32} (h : VB S n sn dn T) (hn : n < 10) (hs : so < 8) (hr : re ≤ T) (hw : we ≤ 20) (ha : Add S S' n (nI so) (nI re) la (nI we)) : VB S' (n + 1) sn dn T := by
  obtain ⟨⟨h1, h2, h3, h4, h5, h6⟩, hP, ⟨v0, v1, v2, v3, v4, v5⟩, hu, sh, hs1, hs2⟩ := h
  obtain ⟨⟨a0, a1⟩, ⟨b1, b2, b3, b4, b5, b6⟩, c, d1, d2, d3, d4, d5, d6⟩ := ha
  have ol : ∀ j, j < n → ordN S j < n := fun j hj => by
    obtain ⟨z, hz, e⟩ := h5 j hj
    unfold ordN
    rw [e, nI_clamp (by omega)]
    exact hz
  have on : ∀ j, j < n → ordN S' j = ordN S j := fun j hj => by unfold ordN; rw [(c j hj).2.2.2.2.2]
  have oe : ordN S' n = n := by unfold ordN; rw [b6, nI_clamp (by omega)]
  refine ⟨⟨⟨a0, by omega⟩, by rw [a1 8 (by decide)]; exact h2, by rw [a1 14 (by decide)]; exact h3, fun k hk => ?_, fun k hk => ?_, by rw [d4]; exact h6⟩, fun i j hi hj e => ?_, ⟨v0, fun k hk => ?_, by rw [d1]; exact v2, by rw [d3]; exact v3, by rw [a1 13 (by decide)]; exact v4, by rw [d5]; exact v5⟩, fun k hk => ?_, sh, hs1, by rw [a1 11 (by decide)]; exact hs2⟩
  · by_cases e : k = n
    · rw [e, b1]; exact ⟨so, hs, rfl⟩
    · rw [(c k (by omega)).1]; exact h4 k (by omega)
  · by_cases e : k = n
    · rw [e, b6]; exact ⟨n, by omega, rfl⟩
    · rw [(c k (by omega)).2.2.2.2.2]
      obtain ⟨z, hz, q⟩ := h5 k (by omega)
      exact ⟨z, by omega, q⟩
  · by_cases ei : i = n <;> by_cases ej : j = n
    · omega
    · rw [ei, oe, on j (by omega)] at e; have := ol j (by omega); omega
    · rw [ej, oe, on i (by omega)] at e; have := ol i (by omega); omega
    · rw [on i (by omega), on j (by omega)] at e; exact hP i j (by omega) (by omega) e
  · by_cases e : k = n
    · rw [e, b2, b4, nIi (by omega), nIi (by omega)]; omega
    · rw [(c k (by omega)).2.1, (c k (by omega)).2.2.2.1]; exact v1 k (by omega)
  · by_cases e : k = n
    · rw [e, b5]; exact Or.inl rfl
    · rw [(c k (by omega)).2.2.2.2.1]; exact hu k (by omega)
theorem VB.rmv {c p : Nat} (h : VB S n sn dn T) (hp : p < n) (hc : ordN S p = c) (hr : Rmv S S' n c p) : VB S' (n - 1) sn dn T := by
  have hb := Rmv_BI h.1 h.2.1 hp hc hr
  obtain ⟨-, -, ⟨v0, v1, v2, v3, v4, v5⟩, hu, sh, hs1, hs2⟩ := h
  obtain ⟨⟨f0, ff⟩, rr, g1, g2, g3, g4, g5, g6⟩ := hr
  refine ⟨hb.1, hb.2, ⟨v0, fun k hk => ?_, by rw [g1]; exact v2, by rw [g3]; exact v3, by rw [ff 13 (by decide)]; exact v4, by rw [g5]; exact v5⟩, fun k hk => ?_, sh, hs1, by rw [ff 11 (by decide)]; exact hs2⟩
  · rw [(rr k hk).2.1, (rr k hk).2.2.2.1]; exact v1 _ (sk_lt hk)
  · rw [(rr k hk).2.2.2.2.1]; exact hu _ (sk_lt hk)
theorem VB.dna {so sl wa : Int32} {z : Nat} (h : VB S n sn dn T) (hd : DnA S S' dn (mn20 (dn + 1)) so sl wa) (hz : z < 8) (e : so = nI z) (h1 : 0 ≤ sl.toInt) (h2 : sl.toInt ≤ T) : VB S' n sn (mn20 (dn + 1)) T := by
  have hb := DnA_BI h.1 hd hz e
  have hp := DnA_PI h.2.1 hd
  have h20 := h.1.2.2.1.2
  obtain ⟨-, -, ⟨v0, v1, v2, v3, v4, v5⟩, hu, sh, hs1, hs2⟩ := h
  obtain ⟨⟨f14, ff⟩, ⟨r1, r2, r3, r4, r5, r6, r7, r8, r9⟩, ⟨d1, d2, d3⟩, dd⟩ := hd
  refine ⟨hb, hp, ⟨v0, by rw [r2, r4]; exact v1, by rw [r7]; exact v2, by rw [r9]; exact v3, by rw [ff 13 (by decide)]; exact v4, fun k hk => ?_⟩, by unfold HU; rw [r5]; exact hu, sh, hs1, by rw [ff 11 (by decide)]; exact hs2⟩
  by_cases ek : k = mn20 (dn + 1) - 1
  · rw [ek, d2]; exact ⟨h1, h2⟩
  · unfold mn20 at hk ek dd
    have := (dd (min (dn + 1) 20 - 2 - k) (by omega)).2.1
    rw [show min (dn + 1) 20 - 1 - (min (dn + 1) 20 - 2 - k + 1) = k by omega] at this
    rw [this]
    exact v5 _ (by omega)
theorem VB.pss {sl : Nat → Int32} : ∀ {D : Nat} {S' : BS}, VB S n sn dn T → D ≤ n → (∀ j, j < D → 0 ≤ (sl j).toInt ∧ (sl j).toInt ≤ T) → Pss sl n dn D S S' → VB S' (n - D) sn (mn20 (dn + D)) T
  | 0, S', h, _, _, hp => by
    rw [show S' = S from hp, show mn20 (dn + 0) = dn by have := h.1.2.2.1.2; unfold mn20; omega]
    exact h
  | D + 1, S', h, hD, hs, hp => by
    obtain ⟨S1, T1, q1, q2, q3⟩ := hp
    have ih := VB.pss h (by omega) (fun j hj => hs j (by omega)) q1
    obtain ⟨z, hz, ez⟩ := ih.1.2.2.2.1 _ (BI_or ih.1 0 (by omega)).2
    have hm : mn20 (dn + D + 1) = mn20 (mn20 (dn + D) + 1) := by unfold mn20; omega
    rw [hm] at q2
    have hT := ih.dna q2 hz ez (hs D (by omega)).1 (hs D (by omega)).2
    have ho : ordN T1 = ordN S1 := by unfold ordN; rw [q2.2.1.2.2.2.2.2.1]
    have := hT.rmv (show 0 < n - D by omega) (by rw [ho]) q3
    rw [show n - (D + 1) = n - D - 1 by omega, show dn + (D + 1) = dn + D + 1 by omega, hm]
    exact this
theorem VB.now {x : Int32} (h : VB S n sn dn T) (h1 : 0 ≤ x.toInt) (h2 : x.toInt ≤ T) : VB (fun j => if j = 13 then x else bF S j, S.2) n sn dn T := by
  obtain ⟨⟨b1, b2, b3, b4, b5, b6⟩, hP, ⟨v0, v1, v2, v3, v4, v5⟩, hu, sh, hs1, hs2⟩ := h
  exact ⟨⟨b1, b2, b3, b4, b5, b6⟩, hP, ⟨v0, v1, v2, v3, ⟨h1, h2⟩, v5⟩, hu, sh, hs1, hs2⟩
theorem VB.oth {o : Nat → Nat} (h : VB S n sn dn T) (hO : Oth S S' n o) (ho : ∀ j, j < n → o j < n) (hi : ∀ i j, i < n → j < n → o i = o j → i = j) : VB S' n sn dn T := by
  have hb := hO.bi h.1 ho
  have hn := h.1.1.2
  obtain ⟨-, -, ⟨v0, v1, v2, v3, v4, v5⟩, hu, sh, hs1, hs2⟩ := h
  obtain ⟨g0, g1, g2, g3, g4, g5, g6, g7, g8, g9, g10, g11, g12⟩ := hO
  refine ⟨hb, PI_ord hn g0 ho hi, ⟨v0, by rw [g3, g5]; exact v1, by rw [g7]; exact v2, by rw [g9]; exact v3, by rw [g1]; exact v4, by rw [g11]; exact v5⟩, by unfold HU; rw [g6]; exact hu, sh, hs1, by rw [g1]; exact hs2⟩
theorem VB.ag (h : VB S n sn dn T) (hA : AG S' S) : VB S' n sn dn T := by
  obtain ⟨⟨⟨b1, b1'⟩, ⟨b2, b2'⟩, ⟨b3, b3'⟩, b4, b5, b6⟩, hP, ⟨v0, v1, v2, v3, v4, v5⟩, hu, sh, hs1, hs2⟩ := h
  obtain ⟨⟨f0, f8, f11, f12, f13, f14⟩, a, b, c, d⟩ := hA
  have on : ∀ j, j < n → ordN S' j = ordN S j := fun j hj => by unfold ordN; rw [(a j (by omega)).2.2.2.2.2]
  refine ⟨⟨⟨by rw [f0]; exact b1, b1'⟩, ⟨by rw [f8]; exact b2, b2'⟩, ⟨by rw [f14]; exact b3, b3'⟩, fun k hk => by rw [(a k (by omega)).1]; exact b4 k hk, fun k hk => by rw [(a k (by omega)).2.2.2.2.2]; exact b5 k hk, fun k hk => by rw [(d k (by omega)).1]; exact b6 k hk⟩, fun i j hi hj e => ?_, ⟨v0, fun k hk => ?_, fun k hk => by rw [b k hk]; exact v2 k hk, fun k hk => by rw [(c k (by omega)).2]; exact v3 k hk, by rw [f13]; exact v4, fun k hk => by rw [(d k (by omega)).2.1]; exact v5 k hk⟩, fun k hk => by rw [(a k (by omega)).2.2.2.2.1]; exact hu k hk, sh, hs1, by rw [f11]; exact hs2⟩
  · rw [on i hi, on j hj] at e; exact hP i j hi hj e
  · rw [(a k (by omega)).2.1, (a k (by omega)).2.2.2.1]; exact v1 k hk
theorem Rel.ag {r : rw1} (h : Rel r S n sn dn) (hn : n ≤ 10) (hs : sn ≤ 4) (hd : dn ≤ 20) (hA : AG S' S) : Rel r S' n sn dn := by
  obtain ⟨⟨h1, h2, h3, h4, h5, h6⟩, a, b, c', d', w, q1, q2, q3⟩ := h
  obtain ⟨⟨f0, f8, f11, f12, f13, f14⟩, aa, bb, cc, dd⟩ := hA
  refine ⟨⟨h1, by rw [f13]; exact h2, by rw [f11]; exact h3, by rw [f12]; exact h4, h5, h6⟩, fun k hk => ?_, fun k hk => by rw [bb k hk]; exact b k hk, fun k hk => by rw [(cc k (by omega)).1, (cc k (by omega)).2]; exact c' k hk, fun i hi => by rw [(dd (dn - 1 - i) (by omega)).1, (dd (dn - 1 - i) (by omega)).2.1, (dd (dn - 1 - i) (by omega)).2.2]; exact d' i hi, w, q1, q2, fun k hk => by rw [(aa k (by omega)).2.2.2.2.1]; exact q3 k hk⟩
  have := aa k (by omega)
  rw [this.1, this.2.1, this.2.2.1, this.2.2.2.1, this.2.2.2.2.2]
  exact a k hk
end KEEP
theorem bst_val {ok : Nat → Bool} {co : Nat → Int32} {f : Nat} : ∀ {m : Nat}, (bst ok co f m).1 = -1 ∨ ∃ p, f ≤ p ∧ p < f + m ∧ (bst ok co f m).1 = nI p
  | 0 => Or.inl rfl
  | m + 1 => by
    have ih := bst_val (ok := ok) (co := co) (f := f) (m := m)
    unfold bst
    split
    · exact Or.inr ⟨f + m, by omega, by omega, rfl⟩
    · rcases ih with h | ⟨p, h1, h2, h3⟩
      · exact Or.inl h
      · exact Or.inr ⟨p, h1, by omega, h3⟩
theorem trd_val {ok : Nat → Bool} {co : Nat → Int32} {l0 : Int32} {f : Nat} : ∀ {m : Nat}, (trd ok co l0 f m).1 = -1 ∨ ∃ p, f ≤ p ∧ p < f + m ∧ (trd ok co l0 f m).1 = nI p
  | 0 => Or.inl rfl
  | m + 1 => by
    have ih := trd_val (ok := ok) (co := co) (l0 := l0) (f := f) (m := m)
    unfold trd
    split
    · exact Or.inr ⟨f + m, by omega, by omega, rfl⟩
    · rcases ih with h | ⟨p, h1, h2, h3⟩
      · exact Or.inl h
      · exact Or.inr ⟨p, h1, by omega, h3⟩
