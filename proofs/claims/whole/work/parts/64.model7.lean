/-! The model: around; rows kept and brought back. -/
theorem mn_comm (a b : Int32) : mn a b = mn b a := by
  unfold mn
  by_cases h1 : b < a
  · rw [if_pos h1, if_neg (fun q => Int32.lt_irrefl (Int32.lt_trans h1 q))]
  · by_cases h2 : a < b
    · rw [if_neg h1, if_pos h2]
    · rw [if_neg h1, if_neg h2]
      exact le_antisymm' (Int32.not_lt.mp h1) (Int32.not_lt.mp h2)
theorem Rel.congr {r r' : rw1} {S : BS} {n sn dn : Nat} (h : Rel r S n sn dn) (hn : n ≤ 10) (hs : sn ≤ 4) (hd : dn ≤ 20) (e : ∀ j, j < 189 → r' j = r j) : Rel r' S n sn dn := by
  obtain ⟨⟨h1, h2, h3, h4, h5, h6⟩, a, b, c', d', w, q1, q2, q3⟩ := h
  refine ⟨⟨by rw [e _ (by omega)]; exact h1, by rw [e _ (by omega)]; exact h2, by rw [e _ (by omega)]; exact h3, by rw [e _ (by omega)]; exact h4, by rw [e _ (by omega)]; exact h5, by rw [e _ (by omega)]; exact h6⟩, fun k hk => ?_, fun k hk => by rw [e _ (by omega)]; exact b k hk, fun k hk => by rw [e _ (by omega), e _ (by omega)]; exact c' k hk, fun i hi => by rw [e _ (by omega), e _ (by omega), e _ (by omega)]; exact d' i hi, w, q1, by rw [e _ (by omega)]; exact q2, q3⟩
  rw [e _ (by omega), e _ (by omega), e _ (by omega), e _ (by omega), e _ (by omega)]
  exact a k hk
section MODEL7
variable {d : Nat} {L : hL} {I : Nat → Nat → Int32} {J : Nat → Nat → Int64} {t : tl} {m n sn dn T sh : Nat} {S S' : BS} {o : Nat → Nat} {x : Int32} {F : Int32 → hp → Prop} {G : hp → Prop} {X : Nat → hp → Prop}
--facts LM_ hM
theorem mp_goesAround {c p : Nat} (hM : LM L m) (hR : Rel (I (m + 1)) S n sn dn) (hI : BI S n sn dn) (hP : PI S n) (hpn : p < n) (hc : ordN S p = c) (hS : Snd S S' n c p x) (k : ∀ I2, same I I2 (fun a => a = m + 1 ∨ ms m a) → Rel (I2 (m + 1)) S' n sn dn → G (L, I2, J, t)) : cal (d + 5) 250 [.ref m, .int (nI c), .int x] (L, I, J, t) (kV G X) := by
  have hn := hI.1.2
  have hs4 := hI.2.1.2
  have hd20 := hI.2.2.1.2
  have hol := BI_or hI
  have hcn : c < n := by rw [← hc]; exact (hol p hpn).2
  refine e250 (t250_0 ?_)
  simp (disch := omega) only [vpT, nI_leI, nI_ltI, nI_eq, nleT, nleF, nltT, nltF, neqT, neqF, nI_add, pk_mul, subN, divN, nI_clamp, mI1, wrH, wrM1, wrM2, wrowH, wrowM, bI0, bI1, kIi, kVi, kRi, kLi, kIx, kVx, Option.some.injEq, exists_eq_left', true_and, and_true, true_implies, false_implies, implies_true, not_true_eq_false, not_false_eq_true, true_or, or_true, false_or, or_false, forall_eq, iteT, iteF, LM_ hM]
  refine mp_laysPlan hM hR hI hol fun I1 hs1 hL1 => t250_4 ?_
  have e1 : I1 (m + 1) = I (m + 1) := hs1 _ (by omega)
  have hR1 : Rel (I1 (m + 1)) S n sn dn := by rw [e1]; exact hR
  simp (disch := omega) only [vpT, nI_leI, nI_ltI, nI_eq, nleT, nleF, nltT, nltF, neqT, neqF, nI_add, pk_mul, subN, divN, nI_clamp, mI1, wrH, wrM1, wrM2, wrowH, wrowM, bI0, bI1, kIi, kVi, kRi, kLi, kIx, kVx, Option.some.injEq, exists_eq_left', true_and, and_true, true_implies, false_implies, implies_true, not_true_eq_false, not_false_eq_true, true_or, or_true, false_or, or_false, forall_eq, iteT, iteF, LM_ hM]
  refine mp_placeOf hM hR1 hI hP hol hpn hc (t250_9 ?_)
  have w2 : I1 (m + 1) (6 + 4 * c + 2) = bLa S c := (hR1.2.1 c hcn).2.2.1
  simp (disch := omega) only [vpT, nI_leI, nI_ltI, nI_eq, nleT, nleF, nltT, nltF, neqT, neqF, nI_add, pk_mul, subN, divN, nI_clamp, mI1, wrH, wrM1, wrM2, wrowH, wrowM, bI0, bI1, kIi, kVi, kRi, kLi, kIx, kVx, Option.some.injEq, exists_eq_left', true_and, and_true, true_implies, false_implies, implies_true, not_true_eq_false, not_false_eq_true, true_or, or_true, false_or, or_false, forall_eq, iteT, iteF, LM_ hM, hL1.2 p hpn, w2]
  generalize hV1 : (if slt S (ordN S) p + x < nI 999 then slt S (ordN S) p + x else nI 999) = v1
  have hv1 : v1 = bRe S' c := by rw [hS.2.2.1.1, mn_comm, ← hV1]; rfl
  generalize hV2 : (if (if bLa S c + x < v1 then v1 else bLa S c + x) < nI 1999 then (if bLa S c + x < v1 then v1 else bLa S c + x) else nI 1999) = v2
  have hv2 : v2 = bLa S' c := by
    rw [hS.2.2.1.2, mn_comm, ← hV2, hv1, hS.2.2.1.1]
    rfl
  refine lg (n := n) (fun i l h => ∃ I2, l = [some (.ref m), some (.int (nI c)), some (.int x), some (.int (nI p)), some (.int (nI (6 + 4 * c))), some (.int (nI i))] ∧ h = (L, I2, J, t) ∧ p < i ∧ same I1 I2 (fun a => a = m + 1) ∧ (∀ q, q < i - 1 → I2 (m + 1) (46 + q) = nI (ordN S (sk p q))) ∧ (∀ q, i ≤ q → q < n → I2 (m + 1) (46 + q) = nI (ordN S q)) ∧ I2 (m + 1) (6 + 4 * c + 1) = v1 ∧ I2 (m + 1) (6 + 4 * c + 2) = v2 ∧ ∀ j, j ≠ 6 + 4 * c + 1 → j ≠ 6 + 4 * c + 2 → j < 46 ∨ 56 ≤ j → I2 (m + 1) j = I (m + 1) j) ?_ ?_ (show p + 1 ≤ n by omega) _ _ ⟨_, rfl, rfl, by omega, fun a ha => ?_, fun q hq => ?_, fun q h1 h2 => ?_, ?_, ?_, fun j h1 h2 h3 => ?_⟩
  · rintro i hi ih _ _ ⟨I2, rfl, rfl, hpi, hs, h1, h2, h3, h4, h5⟩
    have e0 : I2 (m + 1) 0 = nI n := (h5 0 (by omega) (by omega) (by omega)).trans hR.1.1
    refine t250_84 ?_
    simp (disch := omega) only [vpT, nI_leI, nI_ltI, nI_eq, nleT, nleF, nltT, nltF, neqT, neqF, nI_add, pk_mul, subN, divN, nI_clamp, mI1, wrH, wrM1, wrM2, wrowH, wrowM, bI0, bI1, kIi, kVi, kRi, kLi, kIx, kVx, Option.some.injEq, exists_eq_left', true_and, and_true, true_implies, false_implies, implies_true, not_true_eq_false, not_false_eq_true, true_or, or_true, false_or, or_false, forall_eq, iteT, iteF, LM_ hM, e0, h2 i (Nat.le_refl _) hi]
    refine ih _ _ ⟨_, rfl, rfl, by omega, fun a ha => by rw [wrM1 ha]; exact hs a ha, fun q hq => ?_, fun q q1 q2 => ?_, ?_, ?_, fun j q1 q2 q3 => ?_⟩
    · by_cases e : q = i - 1
      · rw [wrH rfl (by omega), e, sk_g (by omega), show i - 1 + 1 = i by omega]
      · rw [wrM2 (by omega)]; exact h1 q (by omega)
    · rw [wrM2 (by omega)]; exact h2 q (by omega) q2
    · rw [wrM2 (by omega)]; exact h3
    · rw [wrM2 (by omega)]; exact h4
    · rw [wrM2 (by omega)]; exact h5 j q1 q2 q3
  · rintro _ _ ⟨I2, rfl, rfl, hpi, hs, h1, -, h3, h4, h5⟩
    have e0 : I2 (m + 1) 0 = nI n := (h5 0 (by omega) (by omega) (by omega)).trans hR.1.1
    refine t250_84 ?_
    simp (disch := omega) only [vpT, nI_leI, nI_ltI, nI_eq, nleT, nleF, nltT, nltF, neqT, neqF, nI_add, pk_mul, subN, divN, nI_clamp, mI1, wrH, wrM1, wrM2, wrowH, wrowM, bI0, bI1, kIi, kVi, kRi, kLi, kIx, kVx, Option.some.injEq, exists_eq_left', true_and, and_true, true_implies, false_implies, implies_true, not_true_eq_false, not_false_eq_true, true_or, or_true, false_or, or_false, forall_eq, iteT, iteF, LM_ hM, e0]
    obtain ⟨s1, s2, -, s4, s5, s6, s7, s8, s9, s10, s11, s12, s13⟩ := hS
    obtain ⟨⟨a1, a2, a3, a4, a5, a6⟩, b, c', d', e', w, q1, q2, q3⟩ := hR
    have ne : ∀ j, j ≠ 46 + n - 1 → wr I2 (m + 1) (46 + n - 1) (nI c) (m + 1) j = I2 (m + 1) j := fun j hj => wrM2 hj
    have lo : ∀ j, j ≠ 6 + 4 * c + 1 → j ≠ 6 + 4 * c + 2 → j < 46 ∨ 56 ≤ j → wr I2 (m + 1) (46 + n - 1) (nI c) (m + 1) j = I (m + 1) j := fun j x1 x2 x3 => (ne j (by omega)).trans (h5 j x1 x2 x3)
    refine k _ (fun a ha => ?_) ⟨⟨?_, ?_, ?_, ?_, ?_, ?_⟩, fun q hq => ?_, fun q hq => ?_, fun q hq => ?_, fun q hq => ?_, w, q1, ?_, fun q hq => ?_⟩
    · have h6 : a ≠ m + 1 := fun q => ha (Or.inl q)
      simp (disch := omega) only [vpT, nI_leI, nI_ltI, nI_eq, nleT, nleF, nltT, nltF, neqT, neqF, nI_add, pk_mul, subN, divN, nI_clamp, mI1, wrH, wrM1, wrM2, wrowH, wrowM, bI0, bI1, kIi, kVi, kRi, kLi, kIx, kVx, Option.some.injEq, exists_eq_left', true_and, and_true, true_implies, false_implies, implies_true, not_true_eq_false, not_false_eq_true, true_or, or_true, false_or, or_false, forall_eq, iteT, iteF, LM_ hM]
      rw [hs a h6]
      exact hs1 a (fun q => ha (Or.inr q))
    · rw [lo _ (by omega) (by omega) (by omega)]; exact a1
    · rw [lo _ (by omega) (by omega) (by omega), s1]; exact a2
    · rw [lo _ (by omega) (by omega) (by omega), s1]; exact a3
    · rw [lo _ (by omega) (by omega) (by omega), s1]; exact a4
    · rw [lo _ (by omega) (by omega) (by omega)]; exact a5
    · rw [lo _ (by omega) (by omega) (by omega)]; exact a6
    · have bq := b q hq
      have ord : wr I2 (m + 1) (46 + n - 1) (nI c) (m + 1) (46 + q) = bOr S' q := by
        rw [s4 q hq]
        by_cases e : q = n - 1
        · rw [wrH rfl (by omega), mvd_e e, hc]
        · rw [ne _ (by omega), h1 q (by omega), mvd_l (by omega)]
      by_cases e : q = c
      · subst e
        refine ⟨by rw [lo _ (by omega) (by omega) (by omega), s5]; exact bq.1, by rw [ne _ (by omega), h3]; exact hv1, by rw [ne _ (by omega), h4]; exact hv2, by rw [lo _ (by omega) (by omega) (by omega), s6]; exact bq.2.2.2.1, ord⟩
      · have sq := s2 q e
        refine ⟨by rw [lo _ (by omega) (by omega) (by omega), s5]; exact bq.1, by rw [lo _ (by omega) (by omega) (by omega), sq.1]; exact bq.2.1, by rw [lo _ (by omega) (by omega) (by omega), sq.2]; exact bq.2.2.1, by rw [lo _ (by omega) (by omega) (by omega), s6]; exact bq.2.2.2.1, ord⟩
    · rw [lo _ (by omega) (by omega) (by omega), s8]; exact c' q hq
    · rw [lo _ (by omega) (by omega) (by omega), lo _ (by omega) (by omega) (by omega), s9, s10]; exact d' q hq
    · rw [lo _ (by omega) (by omega) (by omega), lo _ (by omega) (by omega) (by omega), lo _ (by omega) (by omega) (by omega), s11, s12, s13]; exact e' q hq
    · rw [lo _ (by omega) (by omega) (by omega)]; exact q2
    · rw [s7]; exact q3 q hq
  · rw [wrM1 ha, wrM1 ha]
  · rw [wrM2 (by omega), wrM2 (by omega), e1, sk_l (by omega)]
    exact (hR.2.1 q (by omega)).2.2.2.2.trans (hol q (by omega)).1
  · rw [wrM2 (by omega), wrM2 (by omega), e1]
    exact (hR.2.1 q (by omega)).2.2.2.2.trans (hol q (by omega)).1
  · rw [wrM2 (by omega), wrH rfl rfl]
  · rw [wrH rfl rfl]
  · rw [wrM2 (by omega), wrM2 (by omega), e1]
theorem mp_laysAside (hM : LM L m) (k : ∀ I2, same I I2 (fun a => a = m + 3) → (∀ j, j < 189 → I2 (m + 3) j = I (m + 1) j) → G (L, I2, J, t)) : cal (d + 1) 267 [.ref m] (L, I, J, t) (kV G X) := by
  refine e267 (t267_0 ?_)
  refine lg (n := 189) (fun i l h => ∃ I2, l = [some (.ref m), some (.int (nI i))] ∧ h = (L, I2, J, t) ∧ same I I2 (fun a => a = m + 3) ∧ ∀ j, j < i → I2 (m + 3) j = I (m + 1) j) ?_ ?_ (Nat.zero_le _) _ _ ⟨I, rfl, rfl, same.rf, fun j hj => by omega⟩
  · rintro i hi ih _ _ ⟨I2, rfl, rfl, hs, h1⟩
    refine t267_2 ?_
    simp (disch := omega) only [vpT, nI_leI, nI_ltI, nI_eq, nleT, nleF, nltT, nltF, neqT, neqF, nI_add, pk_mul, subN, divN, nI_clamp, mI1, wrH, wrM1, wrM2, wrowH, wrowM, bI0, bI1, kIi, kVi, kRi, kLi, kIx, kVx, Option.some.injEq, exists_eq_left', true_and, and_true, true_implies, false_implies, implies_true, not_true_eq_false, not_false_eq_true, true_or, or_true, false_or, or_false, forall_eq, iteT, iteF, LM_ hM, hs (m + 1) (by omega)]
    refine ih _ _ ⟨_, rfl, rfl, fun a ha => by rw [wrM1 ha]; exact hs a ha, fun j hj => ?_⟩
    by_cases e : j = i
    · rw [wrH rfl e, e]
    · rw [wrM2 e]; exact h1 j (by omega)
  · rintro _ _ ⟨I2, rfl, rfl, hs, h1⟩
    refine t267_2 ?_
    simp (disch := omega) only [vpT, nI_leI, nI_ltI, nI_eq, nleT, nleF, nltT, nltF, neqT, neqF, nI_add, pk_mul, subN, divN, nI_clamp, mI1, wrH, wrM1, wrM2, wrowH, wrowM, bI0, bI1, kIi, kVi, kRi, kLi, kIx, kVx, Option.some.injEq, exists_eq_left', true_and, and_true, true_implies, false_implies, implies_true, not_true_eq_false, not_false_eq_true, true_or, or_true, false_or, or_false, forall_eq, iteT, iteF, LM_ hM]
    exact k I2 hs h1
theorem mp_comesBack (hM : LM L m) (k : ∀ I2, same I I2 (fun a => a = m + 1) → (∀ j, j < 189 → I2 (m + 1) j = I (m + 3) j) → G (L, I2, J, t)) : cal (d + 1) 268 [.ref m] (L, I, J, t) (kV G X) := by
  refine e268 (t268_0 ?_)
  refine lg (n := 189) (fun i l h => ∃ I2, l = [some (.ref m), some (.int (nI i))] ∧ h = (L, I2, J, t) ∧ same I I2 (fun a => a = m + 1) ∧ ∀ j, j < i → I2 (m + 1) j = I (m + 3) j) ?_ ?_ (Nat.zero_le _) _ _ ⟨I, rfl, rfl, same.rf, fun j hj => by omega⟩
  · rintro i hi ih _ _ ⟨I2, rfl, rfl, hs, h1⟩
    refine t268_2 ?_
    simp (disch := omega) only [vpT, nI_leI, nI_ltI, nI_eq, nleT, nleF, nltT, nltF, neqT, neqF, nI_add, pk_mul, subN, divN, nI_clamp, mI1, wrH, wrM1, wrM2, wrowH, wrowM, bI0, bI1, kIi, kVi, kRi, kLi, kIx, kVx, Option.some.injEq, exists_eq_left', true_and, and_true, true_implies, false_implies, implies_true, not_true_eq_false, not_false_eq_true, true_or, or_true, false_or, or_false, forall_eq, iteT, iteF, LM_ hM, hs (m + 3) (by omega)]
    refine ih _ _ ⟨_, rfl, rfl, fun a ha => by rw [wrM1 ha]; exact hs a ha, fun j hj => ?_⟩
    by_cases e : j = i
    · rw [wrH rfl e, e]
    · rw [wrM2 e]; exact h1 j (by omega)
  · rintro _ _ ⟨I2, rfl, rfl, hs, h1⟩
    refine t268_2 ?_
    simp (disch := omega) only [vpT, nI_leI, nI_ltI, nI_eq, nleT, nleF, nltT, nltF, neqT, neqF, nI_add, pk_mul, subN, divN, nI_clamp, mI1, wrH, wrM1, wrM2, wrowH, wrowM, bI0, bI1, kIi, kVi, kRi, kLi, kIx, kVx, Option.some.injEq, exists_eq_left', true_and, and_true, true_implies, false_implies, implies_true, not_true_eq_false, not_false_eq_true, true_or, or_true, false_or, or_false, forall_eq, iteT, iteF, LM_ hM]
    exact k I2 hs h1
def mn16 (k : Nat) : Nat := min k 16
theorem mp_keeps {ac : Nat} (hM : LM L m) (hac : I m 5 = nI ac) (h16 : ac ≤ 16) (k : ∀ I2, same I I2 (fun a => a = m ∨ a = m + 4) → (∀ j, j ≠ 5 → I2 m j = I m j) → I2 m 5 = nI (mn16 (ac + 1)) → (∀ j, j < 189 → I2 (m + 4) (189 * (mn16 (ac + 1) - 1) + j) = I (m + 1) j) → (∀ i, i < mn16 (ac + 1) - 1 → ∀ j, j < 189 → I2 (m + 4) (189 * i + j) = I (m + 4) (189 * (i + (ac + 1 - mn16 (ac + 1))) + j)) → G (L, I2, J, t)) : cal (d + 1) 223 [.ref m] (L, I, J, t) (kV G X) := by
  have second : ∀ I2 a2, a2 < 16 → same I I2 (fun a => a = m ∨ a = m + 4) → (∀ j, j ≠ 5 → I2 m j = I m j) → I2 m 5 = nI a2 → mn16 (ac + 1) = a2 + 1 → (∀ i, i < a2 → ∀ j, j < 189 → I2 (m + 4) (189 * i + j) = I (m + 4) (189 * (i + (ac + 1 - (a2 + 1))) + j)) → Wp (cal d) kc_223 [] (kV G X) (54, [some (.ref m), some (.int (nI 0))], [], (L, I2, J, t)) := by
    intro I2 a2 h2 hs hf h5 ea hk
    refine lg (n := 189) (fun i l h => ∃ I3, l = [some (.ref m), some (.int (nI i))] ∧ h = (L, I3, J, t) ∧ same I2 I3 (fun a => a = m + 4) ∧ (∀ j, j < i → I3 (m + 4) (189 * a2 + j) = I (m + 1) j) ∧ ∀ j, j < 189 * a2 → I3 (m + 4) j = I2 (m + 4) j) ?_ ?_ (Nat.zero_le _) _ _ ⟨I2, rfl, rfl, same.rf, fun j hj => by omega, fun _ _ => rfl⟩
    · rintro i hi ih _ _ ⟨I3, rfl, rfl, hs3, g1, g2⟩
      have e5 : I3 m 5 = nI a2 := by rw [hs3 _ (by omega)]; exact h5
      have e1 : I3 (m + 1) = I (m + 1) := by rw [hs3 _ (by omega), hs _ (by omega)]
      refine t223_54 ?_
      simp (disch := omega) only [vpT, nI_leI, nI_ltI, nI_eq, nleT, nleF, nltT, nltF, neqT, neqF, nI_add, pk_mul, subN, divN, nI_clamp, mI1, wrH, wrM1, wrM2, wrowH, wrowM, bI0, bI1, kIi, kVi, kRi, kLi, kIx, kVx, Option.some.injEq, exists_eq_left', true_and, and_true, true_implies, false_implies, implies_true, not_true_eq_false, not_false_eq_true, true_or, or_true, false_or, or_false, forall_eq, iteT, iteF, LM_ hM, e5, e1]
      refine ih _ _ ⟨_, rfl, rfl, fun a ha => by rw [wrM1 ha]; exact hs3 a ha, fun j hj => ?_, fun j hj => ?_⟩
      · by_cases e : j = i
        · rw [wrH rfl (by omega), e]
        · rw [wrM2 (by omega)]; exact g1 j (by omega)
      · rw [wrM2 (by omega)]; exact g2 j hj
    · rintro _ _ ⟨I3, rfl, rfl, hs3, g1, g2⟩
      have e5 : I3 m 5 = nI a2 := by rw [hs3 _ (by omega)]; exact h5
      refine t223_54 ?_
      simp (disch := omega) only [vpT, nI_leI, nI_ltI, nI_eq, nleT, nleF, nltT, nltF, neqT, neqF, nI_add, pk_mul, subN, divN, nI_clamp, mI1, wrH, wrM1, wrM2, wrowH, wrowM, bI0, bI1, kIi, kVi, kRi, kLi, kIx, kVx, Option.some.injEq, exists_eq_left', true_and, and_true, true_implies, false_implies, implies_true, not_true_eq_false, not_false_eq_true, true_or, or_true, false_or, or_false, forall_eq, iteT, iteF, LM_ hM, e5]
      refine k _ (fun a ha => ?_) (fun j hj => ?_) ?_ (fun j hj => ?_) (fun i hi j hj => ?_)
      · have h1 : a ≠ m := fun q => ha (Or.inl q)
        have h3 : a ≠ m + 4 := fun q => ha (Or.inr q)
        simp (disch := omega) only [vpT, nI_leI, nI_ltI, nI_eq, nleT, nleF, nltT, nltF, neqT, neqF, nI_add, pk_mul, subN, divN, nI_clamp, mI1, wrH, wrM1, wrM2, wrowH, wrowM, bI0, bI1, kIi, kVi, kRi, kLi, kIx, kVx, Option.some.injEq, exists_eq_left', true_and, and_true, true_implies, false_implies, implies_true, not_true_eq_false, not_false_eq_true, true_or, or_true, false_or, or_false, forall_eq, iteT, iteF, LM_ hM]
        rw [hs3 a h3]
        exact hs a ha
      · simp (disch := omega) only [vpT, nI_leI, nI_ltI, nI_eq, nleT, nleF, nltT, nltF, neqT, neqF, nI_add, pk_mul, subN, divN, nI_clamp, mI1, wrH, wrM1, wrM2, wrowH, wrowM, bI0, bI1, kIi, kVi, kRi, kLi, kIx, kVx, Option.some.injEq, exists_eq_left', true_and, and_true, true_implies, false_implies, implies_true, not_true_eq_false, not_false_eq_true, true_or, or_true, false_or, or_false, forall_eq, iteT, iteF, LM_ hM]
        rw [hs3 _ (by omega)]
        exact hf j hj
      · simp (disch := omega) only [vpT, nI_leI, nI_ltI, nI_eq, nleT, nleF, nltT, nltF, neqT, neqF, nI_add, pk_mul, subN, divN, nI_clamp, mI1, wrH, wrM1, wrM2, wrowH, wrowM, bI0, bI1, kIi, kVi, kRi, kLi, kIx, kVx, Option.some.injEq, exists_eq_left', true_and, and_true, true_implies, false_implies, implies_true, not_true_eq_false, not_false_eq_true, true_or, or_true, false_or, or_false, forall_eq, iteT, iteF, LM_ hM, ea]
      · rw [wrM1 (by omega), ea, show a2 + 1 - 1 = a2 by omega]; exact g1 j hj
      · rw [ea] at hi ⊢
        rw [wrM1 (by omega), g2 _ (by
          have : 189 * i + 189 ≤ 189 * a2 := by rw [← Nat.mul_succ]; exact Nat.mul_le_mul_left 189 (by omega)
          omega)]
        exact hk i (by omega) j hj
  refine e223 (t223_0 ?_)
  by_cases h : ac = 16
  · subst h
    simp (disch := omega) only [vpT, nI_leI, nI_ltI, nI_eq, nleT, nleF, nltT, nltF, neqT, neqF, nI_add, pk_mul, subN, divN, nI_clamp, mI1, wrH, wrM1, wrM2, wrowH, wrowM, bI0, bI1, kIi, kVi, kRi, kLi, kIx, kVx, Option.some.injEq, exists_eq_left', true_and, and_true, true_implies, false_implies, implies_true, not_true_eq_false, not_false_eq_true, true_or, or_true, false_or, or_false, forall_eq, iteT, iteF, LM_ hM, hac]
    refine lg (n := 2835) (fun i l h => ∃ I2, l = [some (.ref m), some (.int (nI (189 + i)))] ∧ h = (L, I2, J, t) ∧ same I I2 (fun a => a = m + 4) ∧ (∀ j, j < i → I2 (m + 4) j = I (m + 4) (j + 189)) ∧ ∀ j, i ≤ j → I2 (m + 4) j = I (m + 4) j) ?_ ?_ (Nat.zero_le _) _ _ ⟨I, rfl, rfl, same.rf, fun j hj => by omega, fun _ _ => rfl⟩
    · rintro i hi ih _ _ ⟨I2, rfl, rfl, hs, g1, g2⟩
      refine t223_13 ?_
      simp (disch := omega) only [vpT, nI_leI, nI_ltI, nI_eq, nleT, nleF, nltT, nltF, neqT, neqF, nI_add, pk_mul, subN, divN, nI_clamp, mI1, wrH, wrM1, wrM2, wrowH, wrowM, bI0, bI1, kIi, kVi, kRi, kLi, kIx, kVx, Option.some.injEq, exists_eq_left', true_and, and_true, true_implies, false_implies, implies_true, not_true_eq_false, not_false_eq_true, true_or, or_true, false_or, or_false, forall_eq, iteT, iteF, LM_ hM, show 189 + i - 189 = i by omega, g2 (189 + i) (by omega)]
      refine ih _ _ ⟨_, rfl, rfl, fun a ha => by rw [wrM1 ha]; exact hs a ha, fun j hj => ?_, fun j hj => ?_⟩
      · by_cases e : j = i
        · rw [wrH rfl e, e]; congr 1; omega
        · rw [wrM2 e]; exact g1 j (by omega)
      · rw [wrM2 (by omega)]; exact g2 j (by omega)
    · rintro _ _ ⟨I2, rfl, rfl, hs, g1, g2⟩
      have e5 : I2 m 5 = nI 16 := by rw [hs _ (by omega)]; exact hac
      refine t223_13 ?_
      simp (disch := omega) only [vpT, nI_leI, nI_ltI, nI_eq, nleT, nleF, nltT, nltF, neqT, neqF, nI_add, pk_mul, subN, divN, nI_clamp, mI1, wrH, wrM1, wrM2, wrowH, wrowM, bI0, bI1, kIi, kVi, kRi, kLi, kIx, kVx, Option.some.injEq, exists_eq_left', true_and, and_true, true_implies, false_implies, implies_true, not_true_eq_false, not_false_eq_true, true_or, or_true, false_or, or_false, forall_eq, iteT, iteF, LM_ hM, e5]
      refine second _ 15 (by omega) (fun a ha => ?_) (fun j hj => ?_) ?_ rfl (fun i hi j hj => ?_)
      · have h1 : a ≠ m := fun q => ha (Or.inl q)
        simp (disch := omega) only [vpT, nI_leI, nI_ltI, nI_eq, nleT, nleF, nltT, nltF, neqT, neqF, nI_add, pk_mul, subN, divN, nI_clamp, mI1, wrH, wrM1, wrM2, wrowH, wrowM, bI0, bI1, kIi, kVi, kRi, kLi, kIx, kVx, Option.some.injEq, exists_eq_left', true_and, and_true, true_implies, false_implies, implies_true, not_true_eq_false, not_false_eq_true, true_or, or_true, false_or, or_false, forall_eq, iteT, iteF, LM_ hM]
        exact hs a (fun q => ha (Or.inr q))
      · simp (disch := omega) only [vpT, nI_leI, nI_ltI, nI_eq, nleT, nleF, nltT, nltF, neqT, neqF, nI_add, pk_mul, subN, divN, nI_clamp, mI1, wrH, wrM1, wrM2, wrowH, wrowM, bI0, bI1, kIi, kVi, kRi, kLi, kIx, kVx, Option.some.injEq, exists_eq_left', true_and, and_true, true_implies, false_implies, implies_true, not_true_eq_false, not_false_eq_true, true_or, or_true, false_or, or_false, forall_eq, iteT, iteF, LM_ hM]
        rw [hs _ (by omega)]
      · simp (disch := omega) only [vpT, nI_leI, nI_ltI, nI_eq, nleT, nleF, nltT, nltF, neqT, neqF, nI_add, pk_mul, subN, divN, nI_clamp, mI1, wrH, wrM1, wrM2, wrowH, wrowM, bI0, bI1, kIi, kVi, kRi, kLi, kIx, kVx, Option.some.injEq, exists_eq_left', true_and, and_true, true_implies, false_implies, implies_true, not_true_eq_false, not_false_eq_true, true_or, or_true, false_or, or_false, forall_eq, iteT, iteF, LM_ hM]
      · rw [wrM1 (by omega), g1 _ (by
          have : 189 * i + 189 ≤ 189 * 15 := by rw [← Nat.mul_succ]; exact Nat.mul_le_mul_left 189 (by omega)
          omega)]
        congr 1
        rw [Nat.mul_add]
        omega
  · simp (disch := omega) only [vpT, nI_leI, nI_ltI, nI_eq, nleT, nleF, nltT, nltF, neqT, neqF, nI_add, pk_mul, subN, divN, nI_clamp, mI1, wrH, wrM1, wrM2, wrowH, wrowM, bI0, bI1, kIi, kVi, kRi, kLi, kIx, kVx, Option.some.injEq, exists_eq_left', true_and, and_true, true_implies, false_implies, implies_true, not_true_eq_false, not_false_eq_true, true_or, or_true, false_or, or_false, forall_eq, iteT, iteF, LM_ hM, hac]
    refine second I ac (by omega) same.rf (fun _ _ => rfl) hac (by unfold mn16; omega) (fun i hi j hj => ?_)
    rw [Nat.sub_self]
    rfl
end MODEL7
