/-! The model: a craft goes, is done. -/
/-- the row's part about crafts, gaps, spans -/
def RelA (r : rw1) (S : BS) (n sn : Nat) : Prop :=
  (r 0 = nI n ∧ r 1 = bF S 13 ∧ r 2 = bF S 11 ∧ r 3 = bF S 12 ∧ r 4 = nI sn) ∧
  (∀ k, k < n → r (6 + 4 * k) = bSo S k ∧ r (6 + 4 * k + 1) = bRe S k ∧ r (6 + 4 * k + 2) = bLa S k ∧ r (6 + 4 * k + 3) = bWe S k ∧ r (46 + k) = bOr S k) ∧
  (∀ k, k < 64 → r (56 + k) = bGa S k) ∧
  (∀ k, k < sn → r (120 + 2 * k) = bSF S k ∧ r (120 + 2 * k + 1) = bST S k) ∧
  ∃ w, w < 1024 ∧ r 188 = nI w ∧ ∀ k, k < n → bHu S k = nI (w / 2 ^ k % 2)
/-- and the one about those done -/
def RelD (r : rw1) (S : BS) (dn : Nat) : Prop := r 5 = nI dn ∧ ∀ i, i < dn → r (128 + 3 * i) = bDo S (dn - 1 - i) ∧ r (128 + 3 * i + 1) = bDS S (dn - 1 - i) ∧ r (128 + 3 * i + 2) = bDW S (dn - 1 - i)
theorem Rel_AD {r : rw1} {S : BS} {n sn dn : Nat} : Rel r S n sn dn ↔ RelA r S n sn ∧ RelD r S dn :=
  ⟨fun ⟨⟨a1, a2, a3, a4, a5, a6⟩, b, c, d, e, f⟩ => ⟨⟨⟨a1, a2, a3, a4, a5⟩, b, c, d, f⟩, a6, e⟩, fun ⟨⟨⟨a1, a2, a3, a4, a5⟩, b, c, d, f⟩, a6, e⟩ => ⟨⟨a1, a2, a3, a4, a5, a6⟩, b, c, d, e, f⟩⟩
theorem RelD.congr {r r' : rw1} {S S' : BS} {dn : Nat} (h : RelD r S dn) (h20 : dn ≤ 20) (e5 : r' 5 = r 5) (e : ∀ j, 128 ≤ j → j < 188 → r' j = r j) (f1 : bDo S' = bDo S) (f2 : bDS S' = bDS S) (f3 : bDW S' = bDW S) : RelD r' S' dn := by
  refine ⟨e5.trans h.1, fun i hi => ?_⟩
  rw [e _ (by omega) (by omega), e _ (by omega) (by omega), e _ (by omega) (by omega), f1, f2, f3]
  exact h.2 i hi
theorem RelA.dna {r : rw1} {S T : BS} {n sn dn dn' : Nat} {so sl wa : Int32} (h : RelA r S n sn) (hd : DnA S T dn dn' so sl wa) : RelA r T n sn := by
  obtain ⟨⟨f14, ff⟩, ⟨r1, r2, r3, r4, r5, r6, r7, r8, r9⟩, -⟩ := hd
  unfold RelA
  rw [ff 13 (by decide), ff 11 (by decide), ff 12 (by decide), r1, r2, r3, r4, r5, r6, r7, r8, r9]
  exact h
/-- hurried ones, with c taken out -/
def hurm (w c : Nat) : Nat := w % 2 ^ c + w / 2 ^ (c + 1) * 2 ^ c
theorem hurm_x : ∀ w, w < 1024 → ∀ c, c < 10 → ((nI w &&& ((nI 1 <<< (nI c &&& 31)) - nI 1)) ||| ((nI w >>> (nI 1 &&& 31)) &&& (((nI 1 <<< (nI c &&& 31)) - nI 1) ^^^ (-1)))) = nI (hurm w c) ∧ hurm w c < 1024 := by decide +kernel
theorem hurm_lo {w c k : Nat} (h : k < c) : hurm w c / 2 ^ k % 2 = w / 2 ^ k % 2 := by
  have hb : ∀ a b : Nat, (a + b * 2 ^ c).testBit k = a.testBit k := fun a b => by
    have := Nat.testBit_mod_two_pow (a + b * 2 ^ c) c k
    have h2 := Nat.testBit_mod_two_pow a c k
    rw [Nat.add_mul_mod_self_right] at this
    rw [h2] at this
    simpa [h] using this.symm
  have h1 := hb (w % 2 ^ c) (w / 2 ^ (c + 1))
  rw [Nat.testBit_mod_two_pow, decide_eq_true h, Bool.true_and, Nat.testBit_eq_decide_div_mod_eq, Nat.testBit_eq_decide_div_mod_eq, decide_eq_decide] at h1
  unfold hurm
  omega
theorem hurm_hi {w c k : Nat} (h : c ≤ k) : hurm w c / 2 ^ k % 2 = w / 2 ^ (k + 1) % 2 := by
  have e1 : hurm w c / 2 ^ c = w / 2 ^ (c + 1) := by
    unfold hurm
    rw [Nat.add_mul_div_right _ _ (Nat.two_pow_pos c), Nat.div_eq_of_lt (Nat.mod_lt _ (Nat.two_pow_pos c)), Nat.zero_add]
  have e2 : hurm w c / 2 ^ k = w / 2 ^ (k + 1) := by
    rw [show k = c + (k - c) by omega, Nat.pow_add, ← Nat.div_div_eq_div_mul, e1, Nat.div_div_eq_div_mul, ← Nat.pow_add]
    congr 2
    omega
  rw [e2]
/-- the row behind takesOut -/
theorem RelA.rmv {r r' : rw1} {S S' : BS} {n sn c p : Nat} (h : RelA r S n sn) (hr : Rmv S S' n c p) (h0 : r' 0 = nI (n - 1)) (e1 : ∀ j, 1 ≤ j → j < 5 → r' j = r j) (e2 : ∀ k, k < n - 1 → ∀ w, w < 4 → r' (6 + 4 * k + w) = r (6 + 4 * sk c k + w)) (e3 : ∀ k, k < n - 1 → r' (46 + k) = nI (dn1 c (ordN S (sk p k)))) (e4 : ∀ j, 56 ≤ j → j < 128 → r' j = r j) (hs4 : sn ≤ 4) (e5 : ∀ w, w < 1024 → r 188 = nI w → r' 188 = nI (hurm w c) ∧ hurm w c < 1024) : RelA r' S' (n - 1) sn := by
  obtain ⟨⟨a1, a2, a3, a4, a5⟩, b, c', d', w, f1, f2, f3⟩ := h
  obtain ⟨⟨g0, gg⟩, rr, k1, k2, k3, -⟩ := hr
  refine ⟨⟨h0, by rw [e1 1 (by decide) (by decide), gg 13 (by decide)]; exact a2, by rw [e1 2 (by decide) (by decide), gg 11 (by decide)]; exact a3, by rw [e1 3 (by decide) (by decide), gg 12 (by decide)]; exact a4, by rw [e1 4 (by decide) (by decide)]; exact a5⟩, fun k hk => ?_, fun k hk => by rw [e4 _ (by omega) (by omega), k1]; exact c' k hk, fun k hk => by rw [e4 _ (by omega) (by omega), e4 _ (by omega) (by omega), k2, k3]; exact d' k hk, hurm w c, (e5 w f1 f2).2, (e5 w f1 f2).1, fun k hk => ?_⟩
  · have q := b (sk c k) (sk_lt hk)
    have q2 := rr k hk
    refine ⟨?_, ?_, ?_, ?_, ?_⟩
    · have := e2 k hk 0 (by decide); rw [Nat.add_zero, Nat.add_zero] at this; rw [this, q2.1]; exact q.1
    · rw [e2 k hk 1 (by decide), q2.2.1]; exact q.2.1
    · rw [e2 k hk 2 (by decide), q2.2.2.1]; exact q.2.2.1
    · rw [e2 k hk 3 (by decide), q2.2.2.2.1]; exact q.2.2.2.1
    · rw [e3 k hk, q2.2.2.2.2.2]
  · rw [(rr k hk).2.2.2.2.1, f3 _ (sk_lt hk)]
    by_cases h : k < c
    · rw [sk_l h, hurm_lo h]
    · rw [sk_g (by omega), hurm_hi (by omega)]
section MODEL5
variable {d : Nat} {L : hL} {I : Nat → Nat → Int32} {J : Nat → Nat → Int64} {t : tl} {m n sn dn T sh : Nat} {S : BS} {o : Nat → Nat} {y : Int32} {F : Int32 → hp → Prop} {G : hp → Prop} {X : Nat → hp → Prop}
--facts LM_ hM
theorem mp_takesOut {c p : Nat} (hM : LM L m) (hR : RelA (I (m + 1)) S n sn) (hn : n ≤ 10) (hs4 : sn ≤ 4) (hP : PI S n) (hol : ∀ j, j < n → bOr S j = nI (ordN S j) ∧ ordN S j < n) (hpn : p < n) (hc : ordN S p = c) (k : ∀ I2, same I I2 (fun a => a = m + 1) → (∀ S', Rmv S S' n c p → RelA (I2 (m + 1)) S' (n - 1) sn) → I2 (m + 1) 5 = I (m + 1) 5 → (∀ j, 128 ≤ j → j < 188 → I2 (m + 1) j = I (m + 1) j) → (∀ w, w < 1024 → I (m + 1) 188 = nI w → I2 (m + 1) 188 = nI (hurm w c)) → G (L, I2, J, t)) : cal (d + 2) 225 [.ref m, .int (nI c)] (L, I, J, t) (kV G X) := by
  have hcn : c < n := by rw [← hc]; exact (hol p hpn).2
  have eP : ∀ i, i < n → I (m + 1) (46 + i) = nI (ordN S i) := fun i hi => (hR.2.1 i hi).2.2.2.2.trans (hol i hi).1
  have place : ∀ (F : Int32 → hp → Prop), F (nI p) (L, I, J, t) → cal (d + 1) 214 [.ref m, .int (nI c)] (L, I, J, t) (kI F (fun e h2 => kV G X (.inr e) h2)) := by
    intro F k
    refine e214 (t214_0 ?_)
    refine lqP (n := n) (fun i => i ≤ p) (fun i => [some (.ref m), some (.int (nI c)), some (.int (nI i))]) (by omega) (fun i hi hip ih => t214_2 ?_) (fun h => by omega)
    have h2 := (hol i hi).2
    simp (disch := omega) only [vpT, nI_leI, nI_ltI, nI_eq, nleT, nleF, nltT, nltF, neqT, neqF, nI_add, pk_mul, subN, divN, nI_clamp, mI1, wrH, wrM1, wrM2, wrowH, wrowM, bI0, bI1, kIi, kVi, kRi, kLi, kIx, kVx, Option.some.injEq, exists_eq_left', true_and, and_true, true_implies, false_implies, implies_true, not_true_eq_false, not_false_eq_true, true_or, or_true, false_or, or_false, forall_eq, iteT, iteF, LM_ hM, eP i hi]
    refine ⟨fun h => ?_, fun h => ih ?_⟩
    · rw [show i = p from hP i p hi hpn (by omega)]; exact k
    · have : i ≠ p := fun e => h (by rw [e]; exact hc)
      omega
  refine e225 (t225_0 ?_)
  simp (disch := omega) only [vpT, nI_leI, nI_ltI, nI_eq, nleT, nleF, nltT, nltF, neqT, neqF, nI_add, pk_mul, subN, divN, nI_clamp, mI1, wrH, wrM1, wrM2, wrowH, wrowM, bI0, bI1, kIi, kVi, kRi, kLi, kIx, kVx, Option.some.injEq, exists_eq_left', true_and, and_true, true_implies, false_implies, implies_true, not_true_eq_false, not_false_eq_true, true_or, or_true, false_or, or_false, forall_eq, iteT, iteF, LM_ hM]
  refine place _ (t225_5 ?_)
  simp (disch := omega) only [vpT, nI_leI, nI_ltI, nI_eq, nleT, nleF, nltT, nltF, neqT, neqF, nI_add, pk_mul, subN, divN, nI_clamp, mI1, wrH, wrM1, wrM2, wrowH, wrowM, bI0, bI1, kIi, kVi, kRi, kLi, kIx, kVx, Option.some.injEq, exists_eq_left', true_and, and_true, true_implies, false_implies, implies_true, not_true_eq_false, not_false_eq_true, true_or, or_true, false_or, or_false, forall_eq, iteT, iteF, LM_ hM]
  -- the plan's cells move up
  refine lg (n := n) (fun i l h => ∃ I2, l = [some (.ref m), some (.int (nI c)), some (.int (nI p)), some (.int (nI i))] ∧ h = (L, I2, J, t) ∧ p < i ∧ same I I2 (fun a => a = m + 1) ∧ (∀ q, q < i - 1 → I2 (m + 1) (46 + q) = nI (ordN S (sk p q))) ∧ (∀ q, i ≤ q → q < n → I2 (m + 1) (46 + q) = nI (ordN S q)) ∧ ∀ j, j < 46 ∨ 56 ≤ j → I2 (m + 1) j = I (m + 1) j) ?_ ?_ (show p + 1 ≤ n by omega) _ _ ⟨I, rfl, rfl, by omega, same.rf, fun q hq => by rw [sk_l (by omega)]; exact eP q (by omega), fun q _ hq => eP q hq, fun _ _ => rfl⟩
  · rintro i hi ih _ _ ⟨I2, rfl, rfl, hpi, hs, h1, h2, h3⟩
    have e0 : I2 (m + 1) 0 = nI n := (h3 0 (by omega)).trans hR.1.1
    refine t225_10 ?_
    simp (disch := omega) only [vpT, nI_leI, nI_ltI, nI_eq, nleT, nleF, nltT, nltF, neqT, neqF, nI_add, pk_mul, subN, divN, nI_clamp, mI1, wrH, wrM1, wrM2, wrowH, wrowM, bI0, bI1, kIi, kVi, kRi, kLi, kIx, kVx, Option.some.injEq, exists_eq_left', true_and, and_true, true_implies, false_implies, implies_true, not_true_eq_false, not_false_eq_true, true_or, or_true, false_or, or_false, forall_eq, iteT, iteF, LM_ hM, e0, h2 i (Nat.le_refl _) hi]
    refine ih _ _ ⟨_, rfl, rfl, by omega, fun a ha => by rw [wrM1 ha]; exact hs a ha, fun q hq => ?_, fun q h4 h5 => ?_, fun j hj => ?_⟩
    · by_cases e : q = i - 1
      · rw [wrH rfl (by omega), e, sk_g (by omega), show i - 1 + 1 = i by omega]
      · rw [wrM2 (by omega)]; exact h1 q (by omega)
    · rw [wrM2 (by omega)]; exact h2 q (by omega) h5
    · rw [wrM2 (by omega)]; exact h3 j hj
  · rintro _ _ ⟨I2, rfl, rfl, hpi, hs, h1, -, h3⟩
    have e0 : I2 (m + 1) 0 = nI n := (h3 0 (by omega)).trans hR.1.1
    have vl : ∀ q, q < n - 1 → ordN S (sk p q) < n := fun q hq => (hol _ (sk_lt hq)).2
    refine t225_10 ?_
    simp (disch := omega) only [vpT, nI_leI, nI_ltI, nI_eq, nleT, nleF, nltT, nltF, neqT, neqF, nI_add, pk_mul, subN, divN, nI_clamp, mI1, wrH, wrM1, wrM2, wrowH, wrowM, bI0, bI1, kIi, kVi, kRi, kLi, kIx, kVx, Option.some.injEq, exists_eq_left', true_and, and_true, true_implies, false_implies, implies_true, not_true_eq_false, not_false_eq_true, true_or, or_true, false_or, or_false, forall_eq, iteT, iteF, LM_ hM, e0]
    -- numbers above c become less
    refine lg (n := n - 1) (fun i l h => ∃ I3, l = [some (.ref m), some (.int (nI c)), some (.int (nI p)), some (.int (nI i))] ∧ h = (L, I3, J, t) ∧ same I I3 (fun a => a = m + 1) ∧ (∀ q, q < i → I3 (m + 1) (46 + q) = nI (dn1 c (ordN S (sk p q)))) ∧ (∀ q, i ≤ q → q < n - 1 → I3 (m + 1) (46 + q) = nI (ordN S (sk p q))) ∧ I3 (m + 1) 0 = nI (n - 1) ∧ ∀ j, 0 < j → j < 46 ∨ 56 ≤ j → I3 (m + 1) j = I (m + 1) j) ?_ ?_ (Nat.zero_le _) _ _ ⟨_, rfl, rfl, fun a ha => by rw [wrM1 ha]; exact hs a ha, fun q hq => by omega, fun q _ hq => by rw [wrM2 (by omega)]; exact h1 q hq, by rw [wrH rfl rfl], fun j hj h => by rw [wrM2 (by omega)]; exact h3 j h⟩
    · rintro i hi ih _ _ ⟨I3, rfl, rfl, hs3, g1, g2, g0, g3⟩
      have hv := vl i hi
      have next : ∀ v, v = nI (dn1 c (ordN S (sk p i))) → Wp (cal (d + 1)) kc_225 [] (kV G X) (58, [some (.ref m), some (.int (nI c)), some (.int (nI p)), some (.int (nI (i + 1)))], [], (L, wr I3 (m + 1) (46 + i) v, J, t)) := by
        intro v hv
        refine ih _ _ ⟨_, rfl, rfl, fun a ha => by rw [wrM1 ha]; exact hs3 a ha, fun q hq => ?_, fun q h4 h5 => ?_, ?_, fun j hj h => ?_⟩
        · by_cases e : q = i
          · rw [wrH rfl (by omega), e]; exact hv
          · rw [wrM2 (by omega)]; exact g1 q (by omega)
        · rw [wrM2 (by omega)]; exact g2 q (by omega) h5
        · rw [wrM2 (by omega)]; exact g0
        · rw [wrM2 (by omega)]; exact g3 j hj h
      refine t225_58 ?_
      simp (disch := omega) only [vpT, nI_leI, nI_ltI, nI_eq, nleT, nleF, nltT, nltF, neqT, neqF, nI_add, pk_mul, subN, divN, nI_clamp, mI1, wrH, wrM1, wrM2, wrowH, wrowM, bI0, bI1, kIi, kVi, kRi, kLi, kIx, kVx, Option.some.injEq, exists_eq_left', true_and, and_true, true_implies, false_implies, implies_true, not_true_eq_false, not_false_eq_true, true_or, or_true, false_or, or_false, forall_eq, iteT, iteF, LM_ hM, g0, g2 i (Nat.le_refl _) hi]
      refine ⟨fun h => next _ ?_, fun h => ?_⟩
      · unfold dn1; rw [if_neg (by omega)]; rfl
      · rw [subN (by omega)]
        exact next _ (by unfold dn1; rw [if_pos (by omega)])
    · rintro _ _ ⟨I3, rfl, rfl, hs3, g1, -, g0, g3⟩
      refine t225_58 ?_
      simp (disch := omega) only [vpT, nI_leI, nI_ltI, nI_eq, nleT, nleF, nltT, nltF, neqT, neqF, nI_add, pk_mul, subN, divN, nI_clamp, mI1, wrH, wrM1, wrM2, wrowH, wrowM, bI0, bI1, kIi, kVi, kRi, kLi, kIx, kVx, Option.some.injEq, exists_eq_left', true_and, and_true, true_implies, false_implies, implies_true, not_true_eq_false, not_false_eq_true, true_or, or_true, false_or, or_false, forall_eq, iteT, iteF, LM_ hM, g0]
      -- the crafts behind it move up
      refine lg (n := 4 * (n - 1 - c)) (fun i l h => ∃ I4, l = [some (.ref m), some (.int (nI c)), some (.int (nI p)), some (.int (nI (6 + 4 * c + i)))] ∧ h = (L, I4, J, t) ∧ same I I4 (fun a => a = m + 1) ∧ (∀ j, j < i → I4 (m + 1) (6 + 4 * c + j) = I (m + 1) (6 + 4 * c + j + 4)) ∧ (∀ j, 6 + 4 * c + i ≤ j ∨ j < 6 + 4 * c → I4 (m + 1) j = I3 (m + 1) j)) ?_ ?_ (Nat.zero_le _) _ _ ⟨I3, rfl, rfl, hs3, fun j hj => by omega, fun _ _ => rfl⟩
      · rintro i hi ih _ _ ⟨I4, rfl, rfl, hs4', k1, k2⟩
        have e0' : I4 (m + 1) 0 = nI (n - 1) := (k2 0 (by omega)).trans g0
        have e4 : I4 (m + 1) (6 + 4 * c + i + 4) = I (m + 1) (6 + 4 * c + i + 4) := (k2 _ (by omega)).trans (g3 _ (by omega) (by omega))
        refine t225_111 ?_
        simp (disch := omega) only [vpT, nI_leI, nI_ltI, nI_eq, nleT, nleF, nltT, nltF, neqT, neqF, nI_add, pk_mul, subN, divN, nI_clamp, mI1, wrH, wrM1, wrM2, wrowH, wrowM, bI0, bI1, kIi, kVi, kRi, kLi, kIx, kVx, Option.some.injEq, exists_eq_left', true_and, and_true, true_implies, false_implies, implies_true, not_true_eq_false, not_false_eq_true, true_or, or_true, false_or, or_false, forall_eq, iteT, iteF, LM_ hM, e0', e4]
        refine ih _ _ ⟨_, rfl, rfl, fun a ha => by rw [wrM1 ha]; exact hs4' a ha, fun j hj => ?_, fun j hj => ?_⟩
        · by_cases e : j = i
          · rw [wrH rfl (by omega), e]
          · rw [wrM2 (by omega)]; exact k1 j (by omega)
        · rw [wrM2 (by omega)]; exact k2 j (by omega)
      · rintro _ _ ⟨I4, rfl, rfl, hs4', k1, k2⟩
        have e0' : I4 (m + 1) 0 = nI (n - 1) := (k2 0 (by omega)).trans g0
        have e188 : I4 (m + 1) 188 = I (m + 1) 188 := (k2 _ (by omega)).trans (g3 _ (by omega) (by omega))
        refine t225_111 ?_
        simp (disch := omega) only [vpT, nI_leI, nI_ltI, nI_eq, nleT, nleF, nltT, nltF, neqT, neqF, nI_add, pk_mul, subN, divN, nI_clamp, mI1, wrH, wrM1, wrM2, wrowH, wrowM, bI0, bI1, kIi, kVi, kRi, kLi, kIx, kVx, Option.some.injEq, exists_eq_left', true_and, and_true, true_implies, false_implies, implies_true, not_true_eq_false, not_false_eq_true, true_or, or_true, false_or, or_false, forall_eq, iteT, iteF, LM_ hM, e0', e188]
        refine k _ (fun a ha => by rw [wrM1 ha]; exact hs4' a ha) (fun S' hr => ?_) ?_ (fun j h4 h5 => ?_) (fun w hw ew => ?_)
        · refine hR.rmv hr ?_ (fun j h4 h5 => ?_) (fun q hq w hw => ?_) (fun q hq => ?_) (fun j h4 h5 => ?_) hs4 (fun w hw ew => ?_)
          · rw [wrM2 (by omega)]; exact e0'
          · rw [wrM2 (by omega), k2 j (by omega)]; exact g3 j (by omega) (by omega)
          · rw [wrM2 (by omega)]
            by_cases h : q < c
            · rw [sk_l h, k2 _ (by omega)]; exact g3 _ (by omega) (by omega)
            · rw [sk_g (by omega)]
              have := k1 (4 * (q - c) + w) (by omega)
              rw [show 6 + 4 * c + (4 * (q - c) + w) = 6 + 4 * q + w by omega, show 6 + 4 * q + w + 4 = 6 + 4 * (q + 1) + w by omega] at this
              exact this
          · rw [wrM2 (by omega), k2 _ (by omega)]; exact g1 q hq
          · rw [wrM2 (by omega), k2 _ (by omega)]; exact g3 _ (by omega) (by omega)
          · have := hurm_x w hw c (by omega)
            rw [wrH rfl rfl, ew, this.1]
            exact ⟨rfl, this.2⟩
        · rw [wrM2 (by omega), k2 _ (by omega)]; exact g3 _ (by omega) (by omega)
        · rw [wrM2 (by omega), k2 _ (by omega)]; exact g3 _ (by omega) (by omega)
        · rw [wrH rfl rfl, ew, (hurm_x w hw c (by omega)).1]
theorem mp_isDone {so sl wa : Int32} (hM : LM L m) (hR : RelD (I (m + 1)) S dn) (h20 : dn ≤ 20) (k : ∀ I2, same I I2 (fun a => a = m + 1) → (∀ S', DnA S S' dn (mn20 (dn + 1)) so sl wa → RelD (I2 (m + 1)) S' (mn20 (dn + 1))) → (∀ j, j ≠ 5 → j < 128 ∨ 188 ≤ j → I2 (m + 1) j = I (m + 1) j) → G (L, I2, J, t)) : cal (d + 1) 253 [.ref m, .int so, .int sl, .int wa] (L, I, J, t) (kV G X) := by
  refine e253 (t253_0 ?_)
  refine lg (n := 57) (fun i l h => ∃ I2, l = [some (.ref m), some (.int so), some (.int sl), some (.int wa), some (.int (nI (187 - i)))] ∧ h = (L, I2, J, t) ∧ same I I2 (fun a => a = m + 1) ∧ (∀ j, 187 - i < j → j < 188 → I2 (m + 1) j = I (m + 1) (j - 3)) ∧ ∀ j, j ≤ 187 - i ∨ 188 ≤ j → I2 (m + 1) j = I (m + 1) j) ?_ ?_ (Nat.zero_le _) _ _ ⟨I, rfl, rfl, same.rf, fun j h1 h2 => by omega, fun _ _ => rfl⟩
  · rintro i hi ih _ _ ⟨I2, rfl, rfl, hs, h1, h2⟩
    refine t253_5 ?_
    simp (disch := omega) only [vpT, nI_leI, nI_ltI, nI_eq, nleT, nleF, nltT, nltF, neqT, neqF, nI_add, pk_mul, subN, divN, nI_clamp, mI1, wrH, wrM1, wrM2, wrowH, wrowM, bI0, bI1, kIi, kVi, kRi, kLi, kIx, kVx, Option.some.injEq, exists_eq_left', true_and, and_true, true_implies, false_implies, implies_true, not_true_eq_false, not_false_eq_true, true_or, or_true, false_or, or_false, forall_eq, iteT, iteF, LM_ hM, h2 (187 - i - 3) (by omega), show 187 - i - 1 = 187 - (i + 1) by omega]
    refine ih _ _ ⟨_, rfl, rfl, fun a ha => by rw [wrM1 ha]; exact hs a ha, fun j h3 h4 => ?_, fun j h3 => ?_⟩
    · by_cases e : j = 187 - i
      · rw [wrH rfl e, e]
      · rw [wrM2 e]; exact h1 j (by omega) h4
    · rw [wrM2 (by omega)]; exact h2 j (by omega)
  · rintro _ _ ⟨I2, rfl, rfl, hs, h1, h2⟩
    have e5 : I2 (m + 1) 5 = nI dn := (h2 5 (by omega)).trans hR.1
    refine t253_5 ?_
    have em : (if dn + 1 < 20 then nI (dn + 1) else nI 20) = nI (mn20 (dn + 1)) := by
      unfold mn20
      by_cases h : dn + 1 < 20
      · rw [if_pos h, show min (dn + 1) 20 = dn + 1 by omega]
      · rw [if_neg h, show min (dn + 1) 20 = 20 by omega]
    simp (disch := omega) only [LM_ hM, vpT, nI_clamp, wrH, wrM2, forall_eq, e5, nI_add, em, true_and, and_true, true_implies, not_true_eq_false, false_implies, kVi, Option.some.injEq, exists_eq_left', nI_ltI, nltT, nltF]
    refine k _ (fun a ha => ?_) (fun S' hD => ⟨by rw [wrH rfl rfl], fun i hi => ?_⟩) (fun j h3 h4 => ?_)
    · simp (disch := omega) only [vpT, nI_leI, nI_ltI, nI_eq, nleT, nleF, nltT, nltF, neqT, neqF, nI_add, pk_mul, subN, divN, nI_clamp, mI1, wrH, wrM1, wrM2, wrowH, wrowM, bI0, bI1, kIi, kVi, kRi, kLi, kIx, kVx, Option.some.injEq, exists_eq_left', true_and, and_true, true_implies, false_implies, implies_true, not_true_eq_false, not_false_eq_true, true_or, or_true, false_or, or_false, forall_eq, iteT, iteF, LM_ hM]
      exact hs a ha
    · obtain ⟨-, -, ⟨d1, d2, d3⟩, dd⟩ := hD
      by_cases e : i = 0
      · subst e
        refine ⟨?_, ?_, ?_⟩
        · simp (disch := omega) only [vpT, nI_leI, nI_ltI, nI_eq, nleT, nleF, nltT, nltF, neqT, neqF, nI_add, pk_mul, subN, divN, nI_clamp, mI1, wrH, wrM1, wrM2, wrowH, wrowM, bI0, bI1, kIi, kVi, kRi, kLi, kIx, kVx, Option.some.injEq, exists_eq_left', true_and, and_true, true_implies, false_implies, implies_true, not_true_eq_false, not_false_eq_true, true_or, or_true, false_or, or_false, forall_eq, iteT, iteF, LM_ hM]
          exact d1.symm
        · simp (disch := omega) only [vpT, nI_leI, nI_ltI, nI_eq, nleT, nleF, nltT, nltF, neqT, neqF, nI_add, pk_mul, subN, divN, nI_clamp, mI1, wrH, wrM1, wrM2, wrowH, wrowM, bI0, bI1, kIi, kVi, kRi, kLi, kIx, kVx, Option.some.injEq, exists_eq_left', true_and, and_true, true_implies, false_implies, implies_true, not_true_eq_false, not_false_eq_true, true_or, or_true, false_or, or_false, forall_eq, iteT, iteF, LM_ hM]
          exact d2.symm
        · simp (disch := omega) only [vpT, nI_leI, nI_ltI, nI_eq, nleT, nleF, nltT, nltF, neqT, neqF, nI_add, pk_mul, subN, divN, nI_clamp, mI1, wrH, wrM1, wrM2, wrowH, wrowM, bI0, bI1, kIi, kVi, kRi, kLi, kIx, kVx, Option.some.injEq, exists_eq_left', true_and, and_true, true_implies, false_implies, implies_true, not_true_eq_false, not_false_eq_true, true_or, or_true, false_or, or_false, forall_eq, iteT, iteF, LM_ hM]
          exact d3.symm
      · have hmn : mn20 (dn + 1) ≤ 20 ∧ mn20 (dn + 1) ≤ dn + 1 := by unfold mn20; omega
        have q := dd (i - 1) (by omega)
        have q2 := hR.2 (i - 1) (by omega)
        rw [show i - 1 + 1 = i by omega] at q
        rw [q.1, q.2.1, q.2.2]
        refine ⟨?_, ?_, ?_⟩
        · simp (disch := omega) only [vpT, nI_leI, nI_ltI, nI_eq, nleT, nleF, nltT, nltF, neqT, neqF, nI_add, pk_mul, subN, divN, nI_clamp, mI1, wrH, wrM1, wrM2, wrowH, wrowM, bI0, bI1, kIi, kVi, kRi, kLi, kIx, kVx, Option.some.injEq, exists_eq_left', true_and, and_true, true_implies, false_implies, implies_true, not_true_eq_false, not_false_eq_true, true_or, or_true, false_or, or_false, forall_eq, iteT, iteF, LM_ hM]
          rw [h1 _ (by omega) (by omega), show 128 + 3 * i - 3 = 128 + 3 * (i - 1) by omega]
          exact q2.1
        · simp (disch := omega) only [vpT, nI_leI, nI_ltI, nI_eq, nleT, nleF, nltT, nltF, neqT, neqF, nI_add, pk_mul, subN, divN, nI_clamp, mI1, wrH, wrM1, wrM2, wrowH, wrowM, bI0, bI1, kIi, kVi, kRi, kLi, kIx, kVx, Option.some.injEq, exists_eq_left', true_and, and_true, true_implies, false_implies, implies_true, not_true_eq_false, not_false_eq_true, true_or, or_true, false_or, or_false, forall_eq, iteT, iteF, LM_ hM]
          rw [h1 _ (by omega) (by omega), show 128 + 3 * i + 1 - 3 = 128 + 3 * (i - 1) + 1 by omega]
          exact q2.2.1
        · simp (disch := omega) only [vpT, nI_leI, nI_ltI, nI_eq, nleT, nleF, nltT, nltF, neqT, neqF, nI_add, pk_mul, subN, divN, nI_clamp, mI1, wrH, wrM1, wrM2, wrowH, wrowM, bI0, bI1, kIi, kVi, kRi, kLi, kIx, kVx, Option.some.injEq, exists_eq_left', true_and, and_true, true_implies, false_implies, implies_true, not_true_eq_false, not_false_eq_true, true_or, or_true, false_or, or_false, forall_eq, iteT, iteF, LM_ hM]
          rw [h1 _ (by omega) (by omega), show 128 + 3 * i + 2 - 3 = 128 + 3 * (i - 1) + 2 by omega]
          exact q2.2.2
    · simp (disch := omega) only [vpT, nI_leI, nI_ltI, nI_eq, nleT, nleF, nltT, nltF, neqT, neqF, nI_add, pk_mul, subN, divN, nI_clamp, mI1, wrH, wrM1, wrM2, wrowH, wrowM, bI0, bI1, kIi, kVi, kRi, kLi, kIx, kVx, Option.some.injEq, exists_eq_left', true_and, and_true, true_implies, false_implies, implies_true, not_true_eq_false, not_false_eq_true, true_or, or_true, false_or, or_false, forall_eq, iteT, iteF, LM_ hM]
      exact h2 j (by omega)
end MODEL5
