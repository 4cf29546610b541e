/-! The model's days: run through. -/
section MDAY2
variable {d : Nat} {L : hL} {I : Nat → Nat → Int32} {J : Nat → Nat → Int64} {t : tl} {m n sn dn T sh : Nat} {S S0 : BS} {x : Int32} {F : Int32 → hp → Prop} {G : hp → Prop} {X : Nat → hp → Prop}
--facts LM_ hM
theorem mp_rightT {w : Nat} (hM : LM L m) (h0 : I m 0 = nI 0) (K : F (nI 1) (L, I, J, t)) : cal (d + 1) 180 [.ref m, .int (nI 1), .int (nI w)] (L, I, J, t) (kI F X) := by
  refine e180 (t180_0 ?_)
  have n10 : (nI 1 = nI 0) = False := eq_false nI10
  simp (disch := omega) only [vpT, nI_leI, nI_ltI, nI_eq, nleT, nleF, nltT, nltF, neqT, neqF, nI_add, pk_mul, subN, divN, nI_clamp, mI1, wrH, wrM1, wrM2, wrowH, wrowM, bI0, bI1, kIi, kVi, kRi, kLi, kIx, kVx, Option.some.injEq, exists_eq_left', true_and, and_true, true_implies, false_implies, implies_true, not_true_eq_false, not_false_eq_true, true_or, or_true, false_or, or_false, forall_eq, iteT, iteF, LM_ hM, h0, n10]
  exact K
theorem mp_rightF {w : Nat} (hM : LM L m) (h0 : I m 0 = nI 0) (hw : 0 < w) (hw2 : w < 10) (K : F (nI 0) (L, wr I m 0 (nI w), J, t)) : cal (d + 1) 180 [.ref m, .int (nI 0), .int (nI w)] (L, I, J, t) (kI F X) := by
  refine e180 (t180_0 ?_)
  simp (disch := omega) only [vpT, nI_leI, nI_ltI, nI_eq, nleT, nleF, nltT, nltF, neqT, neqF, nI_add, pk_mul, subN, divN, nI_clamp, mI1, wrH, wrM1, wrM2, wrowH, wrowM, bI0, bI1, kIi, kVi, kRi, kLi, kIx, kVx, Option.some.injEq, exists_eq_left', true_and, and_true, true_implies, false_implies, implies_true, not_true_eq_false, not_false_eq_true, true_or, or_true, false_or, or_false, forall_eq, iteT, iteF, LM_ hM, h0]
  exact K
theorem mp_beginsDay {seed : Int32} (hM : LM L m) (K : G (L, wr (wr (wr (wr (wr (wr (wr (wr I m 30 seed) m 25 (nI 0)) m 26 (nI 0)) m 27 (nI 0)) (m + 1) 0 (nI 0)) (m + 1) 1 (nI 0)) (m + 1) 5 (nI 0)) (m + 1) 188 (nI 0), J, t)) : cal (d + 1) 270 [.ref m, .int seed] (L, I, J, t) (kV G X) := by
  refine e270 (t270_0 ?_)
  simp (disch := omega) only [vpT, nI_leI, nI_ltI, nI_eq, nleT, nleF, nltT, nltF, neqT, neqF, nI_add, pk_mul, subN, divN, nI_clamp, mI1, wrH, wrM1, wrM2, wrowH, wrowM, bI0, bI1, kIi, kVi, kRi, kLi, kIx, kVx, Option.some.injEq, exists_eq_left', true_and, and_true, true_implies, false_implies, implies_true, not_true_eq_false, not_false_eq_true, true_or, or_true, false_or, or_false, forall_eq, iteT, iteF, LM_ hM]
  exact K
abbrev mda (m : Nat) : Nat → Prop := fun a => a = m ∨ a = m + 1 ∨ a = m + 3 ∨ a = m + 6 ∨ a = m + 7 ∨ a = m + 8
theorem Pss.shf {sl : Nat → Int32} {n dn : Nat} : ∀ {D : Nat} {S S' : BS}, Pss sl n dn D S S' → bF S' 11 = bF S 11
  | 0, S, S', h => by rw [show S' = S from h]
  | D + 1, S, S', h => by
    obtain ⟨Sa, Ta, w1, w2, w3⟩ := h
    rw [w3.1.2 11 (by decide), w2.1.2 11 (by decide)]
    exact Pss.shf w1
theorem PIf.shf {c : Prop} {x : Int32} {s s' : dst} (h : PIf c x s s') : bF s'.1 11 = bF s.1 11 := by
  rcases h with ⟨-, D, ⟨-, ⟨S1, q1, q2⟩, -⟩, -⟩ | ⟨-, q⟩
  · rw [q2]
    show bF S1 11 = _
    exact Pss.shf q1
  · rw [q]
/-- a craft more, on the model's row -/
theorem Add.rel {Sc : BS} {r r' : rw1} {n5 d5 : Nat} {so re la we : Int32} (hA : Add S Sc n5 so re la we) (hR : Rel r S n5 sn d5) (hn : n5 < 10) (hs4 : sn ≤ 4) (hd20 : d5 ≤ 20) (c0 : r' 0 = nI (n5 + 1)) (c1 : r' (6 + 4 * n5) = so) (c2 : r' (6 + 4 * n5 + 1) = re) (c3 : r' (6 + 4 * n5 + 2) = la) (c4 : r' (6 + 4 * n5 + 3) = we) (c5 : r' (46 + n5) = nI n5) (c6 : ∃ w, w < 1024 ∧ r' 188 = nI w ∧ w / 2 ^ n5 % 2 = 0 ∧ ∀ k, k < n5 → bHu S k = nI (w / 2 ^ k % 2)) (e : ∀ j, j ≠ 0 → j ≠ 6 + 4 * n5 → j ≠ 6 + 4 * n5 + 1 → j ≠ 6 + 4 * n5 + 2 → j ≠ 6 + 4 * n5 + 3 → j ≠ 46 + n5 → j ≠ 188 → r' j = r j) : Rel r' Sc (n5 + 1) sn d5 := by
  obtain ⟨⟨h1, h2, h3, h4, h5, h6⟩, a, b, c', d'', -⟩ := hR
  obtain ⟨⟨a0, a1⟩, ⟨x1, x2, x3, x4, x5, x6⟩, ac, g1, g2, g3, g4, g5, g6⟩ := hA
  obtain ⟨w, q1, q2, q4, q3⟩ := c6
  refine ⟨⟨c0, by rw [e _ (by omega) (by omega) (by omega) (by omega) (by omega) (by omega) (by omega), a1 13 (by decide)]; exact h2, by rw [e _ (by omega) (by omega) (by omega) (by omega) (by omega) (by omega) (by omega), a1 11 (by decide)]; exact h3, by rw [e _ (by omega) (by omega) (by omega) (by omega) (by omega) (by omega) (by omega), a1 12 (by decide)]; exact h4, by rw [e _ (by omega) (by omega) (by omega) (by omega) (by omega) (by omega) (by omega)]; exact h5, by rw [e _ (by omega) (by omega) (by omega) (by omega) (by omega) (by omega) (by omega)]; exact h6⟩, fun k hk => ?_, fun k hk => by rw [e _ (by omega) (by omega) (by omega) (by omega) (by omega) (by omega) (by omega), g1]; exact b k hk, fun k hk => by rw [e _ (by omega) (by omega) (by omega) (by omega) (by omega) (by omega) (by omega), e _ (by omega) (by omega) (by omega) (by omega) (by omega) (by omega) (by omega), g2, g3]; exact c' k hk, fun k hk => by rw [e _ (by omega) (by omega) (by omega) (by omega) (by omega) (by omega) (by omega), e _ (by omega) (by omega) (by omega) (by omega) (by omega) (by omega) (by omega), e _ (by omega) (by omega) (by omega) (by omega) (by omega) (by omega) (by omega), g4, g5, g6]; exact d'' k hk, w, q1, q2, fun k hk => ?_⟩
  · by_cases z : k = n5
    · subst z
      exact ⟨c1.trans x1.symm, c2.trans x2.symm, c3.trans x3.symm, c4.trans x4.symm, c5.trans x6.symm⟩
    · have z1 := a k (by omega)
      have z2 := ac k (by omega)
      rw [z2.1, z2.2.1, z2.2.2.1, z2.2.2.2.1, z2.2.2.2.2.2, e _ (by omega) (by omega) (by omega) (by omega) (by omega) (by omega) (by omega), e _ (by omega) (by omega) (by omega) (by omega) (by omega) (by omega) (by omega), e _ (by omega) (by omega) (by omega) (by omega) (by omega) (by omega) (by omega), e _ (by omega) (by omega) (by omega) (by omega) (by omega) (by omega) (by omega), e _ (by omega) (by omega) (by omega) (by omega) (by omega) (by omega) (by omega)]
      exact z1
  · by_cases z : k = n5
    · subst z
      rw [x5, q4]
    · rw [(ac k (by omega)).2.2.2.2.1]; exact q3 k (by omega)
end MDAY2
