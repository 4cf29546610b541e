/-! The model: orders that are tried, taken; rows kept. -/
section MODEL4
variable {d : Nat} {L : hL} {I : Nat → Nat → Int32} {J : Nat → Nat → Int64} {t : tl} {m n sn dn T sh : Nat} {S : BS} {o : Nat → Nat} {y : Int32} {F : Int32 → hp → Prop} {G : hp → Prop} {X : Nat → hp → Prop}
--facts LM_ hM
theorem mp_laysWith {c a p : Nat} (hM : LM L m) (hR : Rel (I (m + 1)) S n sn dn) (hI : BI S n sn dn) (hP : PI S n) (hol : ∀ j, j < n → bOr S j = nI (ordN S j) ∧ ordN S j < n) (ha : a < n) (hc : ordN S a = c) (hp : p < n) (k : ∀ I2, same I I2 (ms m) → ML I2 m S (mvd (ordN S) a p) n → G (L, I2, J, t)) : cal (d + 4) 244 [.ref m, .int (nI c), .int (nI p)] (L, I, J, t) (kV G X) := by
  have hn := hI.1.2
  have hcn : c < n := by rw [← hc]; exact (hol a ha).2
  have e2 : ∀ i, i < n → I (m + 1) (46 + i) = nI (ordN S i) := fun i hi => (hR.2.1 i hi).2.2.2.2.trans (hol i hi).1
  refine e244 (t244_0 ?_)
  refine lg (n := n) (fun i l h => ∃ I2 j, l = [some (.ref m), some (.int (nI c)), some (.int (nI p)), some (.int (nI (if j ≤ p then j else j + 1))), some (.int (nI i))] ∧ h = (L, I2, J, t) ∧ same I I2 (fun a => a = m + 6) ∧ j = (if i ≤ a then i else i - 1) ∧ ∀ q, q < j → I2 (m + 6) (if q < p then q else q + 1) = nI (ordN S (sk a q))) ?_ ?_ (Nat.zero_le _) _ _ ⟨I, 0, by rw [if_pos (Nat.zero_le _)], rfl, same.rf, by rw [if_pos (Nat.zero_le _)], fun q hq => by omega⟩
  · rintro i hi ih _ _ ⟨I2, j, rfl, rfl, hs, hj, hd⟩
    have e1 : I2 (m + 1) = I (m + 1) := hs _ (by omega)
    have hoi := (hol i hi).2
    refine t244_5 ?_
    by_cases hia : i = a
    · have hj' : j = i := by rw [hj, if_pos (by omega)]
      have en : (if j ≤ p then j else j + 1) < 12 := by split <;> omega
      simp (disch := omega) only [vpT, nI_leI, nI_ltI, nI_eq, nleT, nleF, nltT, nltF, neqT, neqF, nI_add, pk_mul, subN, divN, nI_clamp, mI1, wrH, wrM1, wrM2, wrowH, wrowM, bI0, bI1, kIi, kVi, kRi, kLi, kIx, kVx, Option.some.injEq, exists_eq_left', true_and, and_true, true_implies, false_implies, implies_true, not_true_eq_false, not_false_eq_true, true_or, or_true, false_or, or_false, forall_eq, iteT, iteF, LM_ hM, e1, hR.1.1, e2 i hi, show ordN S i = c by rw [hia]; exact hc]
      refine ih _ _ ⟨I2, j, rfl, rfl, hs, ?_, hd⟩
      rw [if_neg (by omega)]; omega
    · have hne : ordN S i ≠ c := fun q => hia (hP i a hi ha (q.trans hc.symm))
      have hsk : sk a j = i := by
        rw [hj]
        by_cases h : i ≤ a
        · rw [if_pos h, sk_l (by omega)]
        · rw [if_neg h, sk_g (by omega)]; omega
      have hjn : j < n - 1 := by rw [hj]; split <;> omega
      have next : ∀ v w, v = (if j < p then j else j + 1) → w = (if j + 1 ≤ p then j + 1 else j + 1 + 1) → Wp (cal (d + 3)) kc_244 [] (kV G X) (5, [some (.ref m), some (.int (nI c)), some (.int (nI p)), some (.int (nI w)), some (.int (nI (i + 1)))], [], (L, wr I2 (m + 6) v (nI (ordN S i)), J, t)) := by
        intro v w hv hw
        refine ih _ _ ⟨_, j + 1, by rw [hw], rfl, fun q hq => by rw [wrM1 hq]; exact hs q hq, ?_, fun q hq => ?_⟩
        · rw [hj]
          by_cases h : i ≤ a
          · rw [if_pos h, if_pos (by omega)]
          · rw [if_neg h, if_neg (by omega)]; omega
        · by_cases e : q = j
          · subst e
            rw [wrH rfl hv.symm, hsk]
          · rw [wrM2 (by rw [hv]; split <;> split <;> omega)]
            exact hd q (by omega)
      by_cases hjp : j < p
      · have e3 : (if j ≤ p then j else j + 1) = j := if_pos (by omega)
        rw [e3]
        simp (disch := omega) only [vpT, nI_leI, nI_ltI, nI_eq, nleT, nleF, nltT, nltF, neqT, neqF, nI_add, pk_mul, subN, divN, nI_clamp, mI1, wrH, wrM1, wrM2, wrowH, wrowM, bI0, bI1, kIi, kVi, kRi, kLi, kIx, kVx, Option.some.injEq, exists_eq_left', true_and, and_true, true_implies, false_implies, implies_true, not_true_eq_false, not_false_eq_true, true_or, or_true, false_or, or_false, forall_eq, iteT, iteF, LM_ hM, e1, hR.1.1, e2 i hi]
        exact next _ _ (by rw [if_pos hjp]) (by rw [if_pos (by omega)])
      · by_cases hjp2 : j = p
        · have e3 : (if j ≤ p then j else j + 1) = j := if_pos (by omega)
          rw [e3]
          simp (disch := omega) only [vpT, nI_leI, nI_ltI, nI_eq, nleT, nleF, nltT, nltF, neqT, neqF, nI_add, pk_mul, subN, divN, nI_clamp, mI1, wrH, wrM1, wrM2, wrowH, wrowM, bI0, bI1, kIi, kVi, kRi, kLi, kIx, kVx, Option.some.injEq, exists_eq_left', true_and, and_true, true_implies, false_implies, implies_true, not_true_eq_false, not_false_eq_true, true_or, or_true, false_or, or_false, forall_eq, iteT, iteF, LM_ hM, e1, hR.1.1, e2 i hi]
          exact next _ _ (by rw [if_neg hjp]) (by rw [if_neg (by omega)])
        · have e3 : (if j ≤ p then j else j + 1) = j + 1 := if_neg (by omega)
          rw [e3]
          simp (disch := omega) only [vpT, nI_leI, nI_ltI, nI_eq, nleT, nleF, nltT, nltF, neqT, neqF, nI_add, pk_mul, subN, divN, nI_clamp, mI1, wrH, wrM1, wrM2, wrowH, wrowM, bI0, bI1, kIi, kVi, kRi, kLi, kIx, kVx, Option.some.injEq, exists_eq_left', true_and, and_true, true_implies, false_implies, implies_true, not_true_eq_false, not_false_eq_true, true_or, or_true, false_or, or_false, forall_eq, iteT, iteF, LM_ hM, e1, hR.1.1, e2 i hi]
          exact next _ _ (by rw [if_neg hjp]) (by rw [if_neg (by omega)])
  · rintro _ _ ⟨I2, j, rfl, rfl, hs, hj, hd⟩
    have e1 : I2 (m + 1) = I (m + 1) := hs _ (by omega)
    have hj' : j = n - 1 := by rw [hj, if_neg (by omega)]
    have row : ∀ q, q < n → wr I2 (m + 6) p (nI c) (m + 6) q = nI (mvd (ordN S) a p q) := fun q hq => by
      rcases Nat.lt_trichotomy q p with h | h | h
      · rw [wrM2 (by omega), mvd_l h]
        have := hd q (by omega)
        rw [if_pos h] at this
        exact this
      · rw [wrH rfl h, mvd_e h, hc]
      · rw [wrM2 (by omega), mvd_g h]
        have := hd (q - 1) (by omega)
        rw [if_neg (by omega), show q - 1 + 1 = q by omega] at this
        exact this
    refine t244_5 ?_
    simp (disch := omega) only [vpT, nI_leI, nI_ltI, nI_eq, nleT, nleF, nltT, nltF, neqT, neqF, nI_add, pk_mul, subN, divN, nI_clamp, mI1, wrH, wrM1, wrM2, wrowH, wrowM, bI0, bI1, kIi, kVi, kRi, kLi, kIx, kVx, Option.some.injEq, exists_eq_left', true_and, and_true, true_implies, false_implies, implies_true, not_true_eq_false, not_false_eq_true, true_or, or_true, false_or, or_false, forall_eq, iteT, iteF, LM_ hM, e1, hR.1.1]
    refine mp_laysSlots (o := mvd (ordN S) a p) hM (by rw [wrM1 (by omega), e1]; exact hR) hI (fun q hq => ⟨row q hq, mvd_lt (fun j hj => (hol j hj).2) ha hp hq⟩) fun I3 hs3 hd3 => t244_77 ?_
    simp (disch := omega) only [vpT, nI_leI, nI_ltI, nI_eq, nleT, nleF, nltT, nltF, neqT, neqF, nI_add, pk_mul, subN, divN, nI_clamp, mI1, wrH, wrM1, wrM2, wrowH, wrowM, bI0, bI1, kIi, kVi, kRi, kLi, kIx, kVx, Option.some.injEq, exists_eq_left', true_and, and_true, true_implies, false_implies, implies_true, not_true_eq_false, not_false_eq_true, true_or, or_true, false_or, or_false, forall_eq, iteT, iteF, LM_ hM]
    refine k I3 (fun b hb => ?_) ⟨fun q hq => ?_, hd3⟩
    · rw [hs3 b (fun q => hb (Or.inr q)), wrM1 (fun q => hb (Or.inl q))]
      exact hs b (fun q => hb (Or.inl q))
    · rw [hs3 _ (by omega)]
      exact row q hq
theorem mp_bestPlace {c a f : Nat} (hM : LM L m) (hR : Rel (I (m + 1)) S n sn dn) (hI : BI S n sn dn) (hV : BV S n sn dn T) (hP : PI S n) (hol : ∀ j, j < n → bOr S j = nI (ordN S j) ∧ ordN S j < n) (ha : a < n) (hc : ordN S a = c) (hf : f ≤ n) (k : ∀ I2, same I I2 (ms m) → F (bst (pokS S n a) (pcoS S n a) f (n - f)).1 (L, I2, J, t)) : cal (d + 5) 243 [.ref m, .int (nI c), .int (nI f)] (L, I, J, t) (kI F X) := by
  have hn := hI.1.2
  have cup : ∀ p, p < n → pcoS S n a p < nI 2147483647 := fun p hp => by
    have := cst_up hI hV (y := nI 0) (k := n) (o := mvd (ordN S) a p) (by omega) (fun j hj => mvd_lt (fun j hj => (hol j hj).2) ha hp hj)
    rw [Int32.lt_iff_toInt_lt, show (nI 2147483647).toInt = 2147483647 from nI_toInt (by omega)]
    unfold pcoS
    omega
  refine e243 (t243_0 ?_)
  refine lg (n := n - f) (fun i l h => ∃ I2 l6 v, l = [some (.ref m), some (.int (nI c)), some (.int (nI f)), some (.int (bst (pokS S n a) (pcoS S n a) f i).1), some (.int v), some (.int (nI (f + i))), l6] ∧ h = (L, I2, J, t) ∧ same I I2 (ms m) ∧ ((bst (pokS S n a) (pcoS S n a) f i).1 = -1 → (bst (pokS S n a) (pcoS S n a) f i).2 = nI 2147483647) ∧ (¬ (bst (pokS S n a) (pcoS S n a) f i).1 = -1 → v = (bst (pokS S n a) (pcoS S n a) f i).2)) ?_ ?_ (Nat.zero_le _) _ _ ⟨I, _, _, rfl, rfl, same.rf, fun _ => rfl, fun q => absurd rfl q⟩
  · rintro i hi ih _ _ ⟨I2, l6, v, rfl, rfl, hs, h1, h2⟩
    have e1 : I2 (m + 1) = I (m + 1) := hs _ (by omega)
    have hR2 : Rel (I2 (m + 1)) S n sn dn := by rw [e1]; exact hR
    have es : bst (pokS S n a) (pcoS S n a) f (i + 1) = if pokS S n a (f + i) = true ∧ pcoS S n a (f + i) < (bst (pokS S n a) (pcoS S n a) f i).2 then (nI (f + i), pcoS S n a (f + i)) else bst (pokS S n a) (pcoS S n a) f i := rfl
    generalize bst (pokS S n a) (pcoS S n a) f i = Z at es h1 h2
    refine t243_8 ?_
    simp (disch := omega) only [vpT, nI_leI, nI_ltI, nI_eq, nleT, nleF, nltT, nltF, neqT, neqF, nI_add, pk_mul, subN, divN, nI_clamp, mI1, wrH, wrM1, wrM2, wrowH, wrowM, bI0, bI1, kIi, kVi, kRi, kLi, kIx, kVx, Option.some.injEq, exists_eq_left', true_and, and_true, true_implies, false_implies, implies_true, not_true_eq_false, not_false_eq_true, true_or, or_true, false_or, or_false, forall_eq, iteT, iteF, LM_ hM, hR2.1.1]
    refine mp_laysWith hM hR2 hI hP hol ha hc (by omega) fun I3 hs3 hL3 => t243_26 ?_
    have hR3 : Rel (I3 (m + 1)) S n sn dn := by rw [hs3 _ (by omega)]; exact hR2
    have hml : ∀ j, j < n → mvd (ordN S) a (f + i) j < n := fun j hj => mvd_lt (fun j hj => (hol j hj).2) ha (by omega) hj
    simp (disch := omega) only [vpT, nI_leI, nI_ltI, nI_eq, nleT, nleF, nltT, nltF, neqT, neqF, nI_add, pk_mul, subN, divN, nI_clamp, mI1, wrH, wrM1, wrM2, wrowH, wrowM, bI0, bI1, kIi, kVi, kRi, kLi, kIx, kVx, Option.some.injEq, exists_eq_left', true_and, and_true, true_implies, false_implies, implies_true, not_true_eq_false, not_false_eq_true, true_or, or_true, false_or, or_false, forall_eq, iteT, iteF, LM_ hM]
    refine mp_costOf hM hR3 hI hml hL3 (t243_31 ?_)
    simp (disch := omega) only [vpT, nI_leI, nI_ltI, nI_eq, nleT, nleF, nltT, nltF, neqT, neqF, nI_add, pk_mul, subN, divN, nI_clamp, mI1, wrH, wrM1, wrM2, wrowH, wrowM, bI0, bI1, kIi, kVi, kRi, kLi, kIx, kVx, Option.some.injEq, exists_eq_left', true_and, and_true, true_implies, false_implies, implies_true, not_true_eq_false, not_false_eq_true, true_or, or_true, false_or, or_false, forall_eq, iteT, iteF, LM_ hM]
    refine mp_holds hM hR3 hI hml hL3 (t243_37 ?_)
    rw [show cst S (mvd (ordN S) a (f + i)) (nI 0) n = pcoS S n a (f + i) from rfl, show hold S (mvd (ordN S) a (f + i)) n = pokS S n a (f + i) from rfl]
    have hne : ∀ q, q < 20 → ¬ nI q = -1 := by decide
    simp (disch := omega) only [vpT, nI_leI, nI_ltI, nI_eq, nleT, nleF, nltT, nltF, neqT, neqF, nI_add, pk_mul, subN, divN, nI_clamp, mI1, wrH, wrM1, wrM2, wrowH, wrowM, bI0, bI1, kIi, kVi, kRi, kLi, kIx, kVx, Option.some.injEq, exists_eq_left', true_and, and_true, true_implies, false_implies, implies_true, not_true_eq_false, not_false_eq_true, true_or, or_true, false_or, or_false, forall_eq, iteT, iteF, LM_ hM]
    have take : pokS S n a (f + i) = true → pcoS S n a (f + i) < Z.2 → Wp (cal (d + 4)) kc_243 [] (kI F X) (8, [some (.ref m), some (.int (nI c)), some (.int (nI f)), some (.int (nI (f + i))), some (.int (pcoS S n a (f + i))), some (.int (nI (f + i + 1))), some (.int (pcoS S n a (f + i)))], [], (L, I3, J, t)) := fun h5 h6 => by
      rw [if_pos ⟨h5, h6⟩] at es
      refine ih _ _ ⟨I3, _, _, by rw [es]; rfl, rfl, hs.tr hs3, fun q => ?_, fun q => by rw [es]⟩
      rw [es] at q
      exact absurd q (hne _ (by omega))
    have keep : ¬ (pokS S n a (f + i) = true ∧ pcoS S n a (f + i) < Z.2) → Wp (cal (d + 4)) kc_243 [] (kI F X) (8, [some (.ref m), some (.int (nI c)), some (.int (nI f)), some (.int Z.1), some (.int v), some (.int (nI (f + i + 1))), some (.int (pcoS S n a (f + i)))], [], (L, I3, J, t)) := fun h5 => by
      rw [if_neg h5] at es
      exact ih _ _ ⟨I3, _, v, by rw [es]; rfl, rfl, hs.tr hs3, by rw [es]; exact h1, by rw [es]; exact h2⟩
    refine ⟨fun h5 => keep fun q => absurd q.1 (by rw [h5]; decide), fun h5 => ⟨fun h6 => take (btf h5) ?_, fun h6 => ⟨fun h7 => keep fun q => ?_, fun h7 => take (btf h5) ?_⟩⟩⟩
    · rw [h1 h6]; exact cup _ (by omega)
    · rw [← h2 h6] at q
      exact Int32.not_lt.mpr h7 q.2
    · rw [← h2 h6]; exact Int32.not_le.mp h7
  · rintro _ _ ⟨I2, l6, v, rfl, rfl, hs, h1, h2⟩
    have e1 : I2 (m + 1) = I (m + 1) := hs _ (by omega)
    refine t243_8 ?_
    simp (disch := omega) only [vpT, nI_leI, nI_ltI, nI_eq, nleT, nleF, nltT, nltF, neqT, neqF, nI_add, pk_mul, subN, divN, nI_clamp, mI1, wrH, wrM1, wrM2, wrowH, wrowM, bI0, bI1, kIi, kVi, kRi, kLi, kIx, kVx, Option.some.injEq, exists_eq_left', true_and, and_true, true_implies, false_implies, implies_true, not_true_eq_false, not_false_eq_true, true_or, or_true, false_or, or_false, forall_eq, iteT, iteF, LM_ hM, e1, hR.1.1]
    exact k I2 hs
theorem mp_takesOrder (hM : LM L m) (hR : Rel (I (m + 1)) S n sn dn) (hI : BI S n sn dn) (k : ∀ I2, same I I2 (fun a => a = m + 1) → (∀ j, j < n → I2 (m + 1) (46 + j) = I (m + 6) j) → (∀ j, j < 46 ∨ 46 + n ≤ j → I2 (m + 1) j = I (m + 1) j) → G (L, I2, J, t)) : cal (d + 1) 245 [.ref m] (L, I, J, t) (kV G X) := by
  have hn := hI.1.2
  refine e245 (t245_0 ?_)
  refine lg (n := n) (fun i l h => ∃ I2, l = [some (.ref m), some (.int (nI i))] ∧ h = (L, I2, J, t) ∧ same I I2 (fun a => a = m + 1) ∧ (∀ j, j < i → I2 (m + 1) (46 + j) = I (m + 6) j) ∧ ∀ j, j < 46 ∨ 46 + i ≤ j → I2 (m + 1) j = I (m + 1) j) ?_ ?_ (Nat.zero_le _) _ _ ⟨I, rfl, rfl, same.rf, fun j hj => by omega, fun _ _ => rfl⟩
  · rintro i hi ih _ _ ⟨I2, rfl, rfl, hs, h1, h2⟩
    have e0 : I2 (m + 1) 0 = nI n := (h2 0 (by omega)).trans hR.1.1
    have e6 : I2 (m + 6) = I (m + 6) := hs _ (by omega)
    refine t245_2 ?_
    simp (disch := omega) only [vpT, nI_leI, nI_ltI, nI_eq, nleT, nleF, nltT, nltF, neqT, neqF, nI_add, pk_mul, subN, divN, nI_clamp, mI1, wrH, wrM1, wrM2, wrowH, wrowM, bI0, bI1, kIi, kVi, kRi, kLi, kIx, kVx, Option.some.injEq, exists_eq_left', true_and, and_true, true_implies, false_implies, implies_true, not_true_eq_false, not_false_eq_true, true_or, or_true, false_or, or_false, forall_eq, iteT, iteF, LM_ hM, e0, e6]
    refine ih _ _ ⟨_, rfl, rfl, fun a ha => by rw [wrM1 ha]; exact hs a ha, fun j hj => ?_, fun j hj => ?_⟩
    · by_cases e : j = i
      · rw [wrH rfl (by omega), e]
      · rw [wrM2 (by omega)]; exact h1 j (by omega)
    · rw [wrM2 (by omega)]; exact h2 j (by omega)
  · rintro _ _ ⟨I2, rfl, rfl, hs, h1, h2⟩
    have e0 : I2 (m + 1) 0 = nI n := (h2 0 (by omega)).trans hR.1.1
    refine t245_2 ?_
    simp (disch := omega) only [vpT, nI_leI, nI_ltI, nI_eq, nleT, nleF, nltT, nltF, neqT, neqF, nI_add, pk_mul, subN, divN, nI_clamp, mI1, wrH, wrM1, wrM2, wrowH, wrowM, bI0, bI1, kIi, kVi, kRi, kLi, kIx, kVx, Option.some.injEq, exists_eq_left', true_and, and_true, true_implies, false_implies, implies_true, not_true_eq_false, not_false_eq_true, true_or, or_true, false_or, or_false, forall_eq, iteT, iteF, LM_ hM, e0]
    exact k I2 hs h1 h2
theorem mp_laysTraded {p : Nat} (hM : LM L m) (hR : Rel (I (m + 1)) S n sn dn) (hI : BI S n sn dn) (hol : ∀ j, j < n → bOr S j = nI (ordN S j) ∧ ordN S j < n) (hp : p + 1 < n) (k : ∀ I2, same I I2 (ms m) → ML I2 m S (swp (ordN S) p) n → G (L, I2, J, t)) : cal (d + 5) 248 [.ref m, .int (nI p)] (L, I, J, t) (kV G X) := by
  have hn := hI.1.2
  refine e248 (t248_0 ?_)
  simp (disch := omega) only [vpT, nI_leI, nI_ltI, nI_eq, nleT, nleF, nltT, nltF, neqT, neqF, nI_add, pk_mul, subN, divN, nI_clamp, mI1, wrH, wrM1, wrM2, wrowH, wrowM, bI0, bI1, kIi, kVi, kRi, kLi, kIx, kVx, Option.some.injEq, exists_eq_left', true_and, and_true, true_implies, false_implies, implies_true, not_true_eq_false, not_false_eq_true, true_or, or_true, false_or, or_false, forall_eq, iteT, iteF, LM_ hM]
  refine mp_laysPlan hM hR hI hol fun I1 hs1 hL1 => t248_4 ?_
  simp (disch := omega) only [vpT, nI_leI, nI_ltI, nI_eq, nleT, nleF, nltT, nltF, neqT, neqF, nI_add, pk_mul, subN, divN, nI_clamp, mI1, wrH, wrM1, wrM2, wrowH, wrowM, bI0, bI1, kIi, kVi, kRi, kLi, kIx, kVx, Option.some.injEq, exists_eq_left', true_and, and_true, true_implies, false_implies, implies_true, not_true_eq_false, not_false_eq_true, true_or, or_true, false_or, or_false, forall_eq, iteT, iteF, LM_ hM, hL1.1 p (by omega), hL1.1 (p + 1) hp]
  have row : ∀ q, q < n → wr (wr I1 (m + 6) p (nI (ordN S (p + 1)))) (m + 6) (p + 1) (nI (ordN S p)) (m + 6) q = nI (swp (ordN S) p q) := fun q hq => by
    by_cases h1 : q = p
    · rw [wrM2 (by omega), wrH rfl h1, swp_a h1]
    · by_cases h2 : q = p + 1
      · rw [wrH rfl h2, swp_b h2]
      · rw [wrM2 h2, wrM2 h1, swp_o h1 h2]; exact hL1.1 q hq
  refine mp_laysSlots (o := swp (ordN S) p) hM (by rw [wrM1 (by omega), wrM1 (by omega), hs1 _ (by omega)]; exact hR) hI (fun q hq => ⟨row q hq, swp_lt (fun j hj => (hol j hj).2) hp hq⟩) fun I3 hs3 hd3 => t248_38 ?_
  simp (disch := omega) only [vpT, nI_leI, nI_ltI, nI_eq, nleT, nleF, nltT, nltF, neqT, neqF, nI_add, pk_mul, subN, divN, nI_clamp, mI1, wrH, wrM1, wrM2, wrowH, wrowM, bI0, bI1, kIi, kVi, kRi, kLi, kIx, kVx, Option.some.injEq, exists_eq_left', true_and, and_true, true_implies, false_implies, implies_true, not_true_eq_false, not_false_eq_true, true_or, or_true, false_or, or_false, forall_eq, iteT, iteF, LM_ hM]
  refine k I3 (fun b hb => ?_) ⟨fun q hq => ?_, hd3⟩
  · rw [hs3 b (fun q => hb (Or.inr q)), wrM1 (fun q => hb (Or.inl q)), wrM1 (fun q => hb (Or.inl q))]
    exact hs1 b hb
  · rw [hs3 _ (by omega)]
    exact row q hq
theorem mp_bestTrade (hM : LM L m) (hR : Rel (I (m + 1)) S n sn dn) (hI : BI S n sn dn) (hV : BV S n sn dn T) (hol : ∀ j, j < n → bOr S j = nI (ordN S j) ∧ ordN S j < n) (hsh : bF S 11 = nI sh) (hs3 : sh ≤ 3) (k : ∀ I2, same I I2 (ms m) → F (trdR S n) (L, I2, J, t)) : cal (d + 6) 247 [.ref m] (L, I, J, t) (kI F X) := by
  have hn := hI.1.2
  have hfz := frz_le (S := S) (n := n)
  unfold trdR at k
  refine e247 (t247_0 ?_)
  simp (disch := omega) only [vpT, nI_leI, nI_ltI, nI_eq, nleT, nleF, nltT, nltF, neqT, neqF, nI_add, pk_mul, subN, divN, nI_clamp, mI1, wrH, wrM1, wrM2, wrowH, wrowM, bI0, bI1, kIi, kVi, kRi, kLi, kIx, kVx, Option.some.injEq, exists_eq_left', true_and, and_true, true_implies, false_implies, implies_true, not_true_eq_false, not_false_eq_true, true_or, or_true, false_or, or_false, forall_eq, iteT, iteF, LM_ hM]
  refine mp_frozenNow hM hR hI hol fun I1 hs1 hL1 => t247_4 ?_
  have hR1 : Rel (I1 (m + 1)) S n sn dn := by rw [hs1 _ (by omega)]; exact hR
  simp (disch := omega) only [vpT, nI_leI, nI_ltI, nI_eq, nleT, nleF, nltT, nltF, neqT, neqF, nI_add, pk_mul, subN, divN, nI_clamp, mI1, wrH, wrM1, wrM2, wrowH, wrowM, bI0, bI1, kIi, kVi, kRi, kLi, kIx, kVx, Option.some.injEq, exists_eq_left', true_and, and_true, true_implies, false_implies, implies_true, not_true_eq_false, not_false_eq_true, true_or, or_true, false_or, or_false, forall_eq, iteT, iteF, LM_ hM]
  refine mp_costOf hM hR1 hI (fun j hj => (hol j hj).2) hL1 (t247_10 ?_)
  refine lg (n := n - 1 - frz S n) (fun i l h => ∃ I2 l5, l = [some (.ref m), some (.int (nI (frz S n))), some (.int (trd (tokS S n) (tcoS S n) (cst S (ordN S) (nI 0) n) (frz S n) i).2), some (.int (trd (tokS S n) (tcoS S n) (cst S (ordN S) (nI 0) n) (frz S n) i).1), some (.int (nI (frz S n + i))), l5] ∧ h = (L, I2, J, t) ∧ same I I2 (ms m)) ?_ ?_ (Nat.zero_le _) _ _ ⟨I1, _, rfl, rfl, hs1⟩
  · rintro i hi ih _ _ ⟨I2, l5, rfl, rfl, hs⟩
    have hR2 : Rel (I2 (m + 1)) S n sn dn := by rw [hs _ (by omega)]; exact hR
    have es : trd (tokS S n) (tcoS S n) (cst S (ordN S) (nI 0) n) (frz S n) (i + 1) = if tokS S n (frz S n + i) = true ∧ tcoS S n (frz S n + i) < (trd (tokS S n) (tcoS S n) (cst S (ordN S) (nI 0) n) (frz S n) i).2 then (nI (frz S n + i), tcoS S n (frz S n + i)) else trd (tokS S n) (tcoS S n) (cst S (ordN S) (nI 0) n) (frz S n) i := rfl
    generalize trd (tokS S n) (tcoS S n) (cst S (ordN S) (nI 0) n) (frz S n) i = Z at es
    have et : tokS S n (frz S n + i) = (hold S (swp (ordN S) (frz S n + i)) n && alw S n (frz S n) (swp (ordN S) (frz S n + i))) := rfl
    refine t247_16 ?_
    simp (disch := omega) only [vpT, nI_leI, nI_ltI, nI_eq, nleT, nleF, nltT, nltF, neqT, neqF, nI_add, pk_mul, subN, divN, nI_clamp, mI1, wrH, wrM1, wrM2, wrowH, wrowM, bI0, bI1, kIi, kVi, kRi, kLi, kIx, kVx, Option.some.injEq, exists_eq_left', true_and, and_true, true_implies, false_implies, implies_true, not_true_eq_false, not_false_eq_true, true_or, or_true, false_or, or_false, forall_eq, iteT, iteF, LM_ hM, hR2.1.1]
    refine mp_laysTraded hM hR2 hI hol (by omega) fun I3 hs3' hL3 => t247_35 ?_
    have hR3 : Rel (I3 (m + 1)) S n sn dn := by rw [hs3' _ (by omega)]; exact hR2
    have hsl : ∀ j, j < n → swp (ordN S) (frz S n + i) j < n := fun j hj => swp_lt (fun j hj => (hol j hj).2) (by omega) hj
    simp (disch := omega) only [vpT, nI_leI, nI_ltI, nI_eq, nleT, nleF, nltT, nltF, neqT, neqF, nI_add, pk_mul, subN, divN, nI_clamp, mI1, wrH, wrM1, wrM2, wrowH, wrowM, bI0, bI1, kIi, kVi, kRi, kLi, kIx, kVx, Option.some.injEq, exists_eq_left', true_and, and_true, true_implies, false_implies, implies_true, not_true_eq_false, not_false_eq_true, true_or, or_true, false_or, or_false, forall_eq, iteT, iteF, LM_ hM]
    refine mp_costOf hM hR3 hI hsl hL3 (t247_40 ?_)
    rw [show cst S (swp (ordN S) (frz S n + i)) (nI 0) n = tcoS S n (frz S n + i) from rfl]
    simp (disch := omega) only [vpT, nI_leI, nI_ltI, nI_eq, nleT, nleF, nltT, nltF, neqT, neqF, nI_add, pk_mul, subN, divN, nI_clamp, mI1, wrH, wrM1, wrM2, wrowH, wrowM, bI0, bI1, kIi, kVi, kRi, kLi, kIx, kVx, Option.some.injEq, exists_eq_left', true_and, and_true, true_implies, false_implies, implies_true, not_true_eq_false, not_false_eq_true, true_or, or_true, false_or, or_false, forall_eq, iteT, iteF, LM_ hM]
    refine ⟨fun h5 => ?_, fun h5 => ?_⟩
    · rw [if_neg (fun q => Int32.not_lt.mpr h5 q.2)] at es
      exact ih _ _ ⟨I3, _, by rw [es]; rfl, rfl, hs.tr hs3'⟩
    refine mp_holds hM hR3 hI hsl hL3 (t247_52 ?_)
    simp (disch := omega) only [vpT, nI_leI, nI_ltI, nI_eq, nleT, nleF, nltT, nltF, neqT, neqF, nI_add, pk_mul, subN, divN, nI_clamp, mI1, wrH, wrM1, wrM2, wrowH, wrowM, bI0, bI1, kIi, kVi, kRi, kLi, kIx, kVx, Option.some.injEq, exists_eq_left', true_and, and_true, true_implies, false_implies, implies_true, not_true_eq_false, not_false_eq_true, true_or, or_true, false_or, or_false, forall_eq, iteT, iteF, LM_ hM]
    refine ⟨fun h6 => ?_, fun h6 => ?_⟩
    · rw [h6, Bool.false_and] at et
      rw [if_neg (fun q => by rw [et] at q; cases q.1)] at es
      exact ih _ _ ⟨I3, _, by rw [es]; rfl, rfl, hs.tr hs3'⟩
    rw [btf h6, Bool.true_and] at et
    refine mp_isAllowed (sh := sh) hM hR3 hI hV hsh hs3 hol hsl hL3.1 (by omega) (t247_60 ?_)
    simp (disch := omega) only [vpT, nI_leI, nI_ltI, nI_eq, nleT, nleF, nltT, nltF, neqT, neqF, nI_add, pk_mul, subN, divN, nI_clamp, mI1, wrH, wrM1, wrM2, wrowH, wrowM, bI0, bI1, kIi, kVi, kRi, kLi, kIx, kVx, Option.some.injEq, exists_eq_left', true_and, and_true, true_implies, false_implies, implies_true, not_true_eq_false, not_false_eq_true, true_or, or_true, false_or, or_false, forall_eq, iteT, iteF, LM_ hM]
    refine ⟨fun h7 => ?_, fun h7 => ?_⟩
    · rw [h7] at et
      rw [if_neg (fun q => by rw [et] at q; cases q.1)] at es
      exact ih _ _ ⟨I3, _, by rw [es]; rfl, rfl, hs.tr hs3'⟩
    · rw [if_pos ⟨et.trans (btf h7), Int32.not_le.mp h5⟩] at es
      exact ih _ _ ⟨I3, _, by rw [es]; rfl, rfl, hs.tr hs3'⟩
  · rintro _ _ ⟨I2, l5, rfl, rfl, hs⟩
    have hR2 : Rel (I2 (m + 1)) S n sn dn := by rw [hs _ (by omega)]; exact hR
    refine t247_16 ?_
    by_cases h0 : n = 0
    · subst h0
      have hf0 : frz S 0 = 0 := by omega
      have e0 : I2 (m + 1) 0 = nI 0 := hR2.1.1
      rw [hf0] at k ⊢
      simp (disch := omega) only [LM_ hM, vpT, nI_clamp, e0, nI_add, show (nI 0 - nI 1 ≤ nI (0 + (0 - 1 - 0))) = True from eq_true (by decide), true_implies, not_true_eq_false, false_implies, and_true, true_and, kIi, Option.some.injEq, exists_eq_left']
      exact k I2 hs
    · simp (disch := omega) only [vpT, nI_leI, nI_ltI, nI_eq, nleT, nleF, nltT, nltF, neqT, neqF, nI_add, pk_mul, subN, divN, nI_clamp, mI1, wrH, wrM1, wrM2, wrowH, wrowM, bI0, bI1, kIi, kVi, kRi, kLi, kIx, kVx, Option.some.injEq, exists_eq_left', true_and, and_true, true_implies, false_implies, implies_true, not_true_eq_false, not_false_eq_true, true_or, or_true, false_or, or_false, forall_eq, iteT, iteF, LM_ hM, hR2.1.1]
      exact k I2 hs
end MODEL4
