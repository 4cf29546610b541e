/-! By ranks: both ways come to the same order. -/
/-- the first f as in o0, the others by rank -/
def Srt (S : BS) (n f : Nat) (o0 o : Nat → Nat) : Prop := (∀ j, j < n → o j < n) ∧ (∀ i j, i < n → j < n → o i = o j → i = j) ∧ (∀ j, j < f → o j = o0 j) ∧ ∀ i j, f ≤ i → i < j → j < n → rk S n (o i) < rk S n (o j)
theorem Srt_le {S : BS} {n f : Nat} {o0 o o' : Nat → Nat} (h : Srt S n f o0 o) (h' : Srt S n f o0 o') {i : Nat} (hf : f ≤ i) (hi : i < n) (e : ∀ j, j < i → o j = o' j) : rk S n (o i) ≤ rk S n (o' i) := by
  obtain ⟨q, hq, eq⟩ := pigeon h.1 h.2.1 (o' i) (h'.1 i hi)
  have hqi : i ≤ q := Nat.le_of_not_lt fun w => by
    rw [e q w] at eq
    have := h'.2.1 q i hq hi eq
    omega
  by_cases w : q = i
  · rw [← eq, w]; exact Nat.le_refl _
  · rw [← eq]; exact Nat.le_of_lt (h.2.2.2 i q hf (by omega) hq)
theorem Srt_uni {S : BS} {n f : Nat} {o0 o o' : Nat → Nat} (hu : HU S n) (h : Srt S n f o0 o) (h' : Srt S n f o0 o') : ∀ i, i < n → o i = o' i := by
  intro i
  induction i using Nat.strongRecOn with
  | ind i ih =>
    intro hi
    by_cases hf : i < f
    · rw [h.2.2.1 i hf, h'.2.2.1 i hf]
    · have a := Srt_le h h' (i := i) (by omega) hi (fun j hj => ih j hj (by omega))
      have b := Srt_le h' h (i := i) (by omega) hi (fun j hj => (ih j hj (by omega)).symm)
      exact rk_inj hu _ _ (h.1 i hi) (h'.1 i hi) (by omega)
theorem lbi_max {S : BS} {n f : Nat} {o : Nat → Nat} (hu : HU S n) : ∀ {m : Nat}, (∀ j, j ≤ f + m → o j < n) → ∀ q, f ≤ q → q ≤ f + m → rk S n (o q) ≤ rk S n (o (lbi S o f m))
  | 0, _, q, h1, h2 => by
    have : q = f := by omega
    rw [this]; exact Nat.le_refl _
  | m + 1, ho, q, h1, h2 => by
    have hl := lbi_le (S := S) (o := o) (f := f) (m := m)
    have ih := lbi_max (o := o) (f := f) hu (m := m) (fun j hj => ho j (by omega))
    unfold lbi
    have hiff := rk_lt_iff hu (ho (lbi S o f m) (by omega)) (ho (f + m + 1) (by omega))
    by_cases e : q = f + m + 1
    · split
      · rename_i h; rw [e]; exact Nat.le_refl _
      · rename_i h
        rw [e]
        refine Nat.le_of_not_lt fun w => h (hiff.mp w)
    · have := ih q h1 (by omega)
      split
      · rename_i h; have := hiff.mpr h; omega
      · exact this
theorem obr_srt {S : BS} {n f : Nat} {o0 : Nat → Nat} (hu : HU S n) : ∀ {m : Nat} {o : Nat → Nat}, f + m < n → (∀ j, j < n → o j < n) → (∀ i j, i < n → j < n → o i = o j → i = j) → (∀ j, j < f → o j = o0 j) → (∀ i j, f ≤ i → i < j → f + m < j → j < n → rk S n (o i) < rk S n (o j)) → Srt S n f o0 (obr S f m o)
  | 0, o, hm, h1, h2, h3, h4 => ⟨h1, h2, h3, fun i j a b c => h4 i j a b (by omega) c⟩
  | m + 1, o, hm, h1, h2, h3, h4 => by
    have hl := lbi_le (S := S) (o := o) (f := f) (m := m + 1)
    have hx := lbi_max hu (o := o) (f := f) (m := m + 1) (fun j hj => h1 j (by omega))
    generalize hA : lbi S o f (m + 1) = a at hl hx
    unfold obr
    rw [hA]
    have hi2 := mvd_inj (show a < n by omega) (show f + m + 1 < n by omega) h2
    refine obr_srt hu (by omega) (fun j hj => mvd_lt h1 (by omega) (by omega) hj) hi2 (fun j hj => ?_) (fun i j q1 q2 q3 q4 => ?_)
    · rw [mvd_l (by omega), sk_l (by omega)]; exact h3 j hj
    · -- places beyond the last one are as they were; what stands ahead was among those ahead
      have src : ∀ q, f ≤ q → q ≤ f + m + 1 → ∃ s, f ≤ s ∧ s ≤ f + m + 1 ∧ mvd o a (f + m + 1) q = o s := fun q w1 w2 => by
        by_cases e : q = f + m + 1
        · exact ⟨a, by omega, by omega, mvd_e e⟩
        · refine ⟨sk a q, ?_, ?_, mvd_l (by omega)⟩
          · unfold sk; split <;> omega
          · unfold sk; split <;> omega
      have hi : ∀ q, f + m + 1 < q → mvd o a (f + m + 1) q = o q := fun q w => by rw [mvd_g w, sk_g (by omega)]; congr 1; omega
      by_cases e : j = f + m + 1
      · obtain ⟨s, s1, s2, s3⟩ := src i q1 (by omega)
        rw [s3, mvd_e e]
        have := hx s s1 s2
        refine Nat.lt_of_le_of_ne this fun w => ?_
        have w2 := h2 s a (by omega) (by omega) (rk_inj hu _ _ (h1 s (by omega)) (h1 a (by omega)) w)
        have w3 := hi2 i j (by omega) q4 (by rw [s3, mvd_e e, w2])
        omega
      · rw [hi j (by omega)]
        by_cases e2 : i ≤ f + m + 1
        · obtain ⟨s, s1, s2, s3⟩ := src i q1 e2
          rw [s3]
          exact h4 s j s1 (by omega) (by omega) q4
        · rw [hi i (by omega)]
          exact h4 i j q1 q2 (by omega) q4
/-- the class's order by ranks is so -/
theorem obr_plan {S : BS} {n f : Nat} (hu : HU S n) (hP : PI S n) (hol : ∀ j, j < n → ordN S j < n) (hf : f ≤ n) : Srt S n f (ordN S) (obr S f (n - 1 - f) (ordN S)) := by
  by_cases h : f + (n - 1 - f) < n
  · exact obr_srt hu h hol hP (fun _ _ => rfl) (fun i j _ _ q1 q2 => by omega)
  · have : n - 1 - f = 0 := by omega
    rw [this]
    exact ⟨hol, hP, fun _ _ => rfl, fun i j q1 q2 q3 => by omega⟩
theorem inj_le {n k : Nat} {f : Nat → Nat} (h1 : ∀ i, i < k → f i < n) (h2 : ∀ i j, i < k → j < k → f i = f j → i = j) : k ≤ n := by
  refine Nat.le_of_not_lt fun h => ?_
  obtain ⟨i, hi, e⟩ := pigeon (n := n + 1) (f := f) (fun i hi => by have := h1 i (by omega); omega) (fun i j hi hj q => h2 i j (by omega) (by omega) q) n (by omega)
  have := h1 i (by omega)
  omega
theorem surj_le {n k : Nat} {f : Nat → Nat} (h : ∀ v, v < n → ∃ i, i < k ∧ f i = v) : n ≤ k := by
  have hc : ∀ v, ∃ i, v < n → i < k ∧ f i = v := fun v => by
    by_cases q : v < n
    · obtain ⟨i, hi⟩ := h v q
      exact ⟨i, fun _ => hi⟩
    · exact ⟨0, fun w => absurd w q⟩
  obtain ⟨g, hg⟩ := Classical.axiomOfChoice hc
  exact inj_le (f := g) (fun i hi => (hg i hi).1) (fun i j hi hj e => by rw [← (hg i hi).2, ← (hg j hj).2, e])
section MRANK
variable {d : Nat} {L : hL} {I : Nat → Nat → Int32} {J : Nat → Nat → Int64} {t : tl} {m n sn dn T ac : Nat} {S : BS} {F : Int32 → hp → Prop} {G : hp → Prop} {X : Nat → hp → Prop}
--facts LM_ hM
/-- what keeping does to the rows kept -/
def KP (I I2 : Nat → Nat → Int32) (m ac : Nat) : Prop := I2 m 5 = nI (mn16 (ac + 1)) ∧ (∀ j, j < 189 → I2 (m + 4) (189 * (mn16 (ac + 1) - 1) + j) = I (m + 1) j) ∧ ∀ i, i < mn16 (ac + 1) - 1 → ∀ j, j < 189 → I2 (m + 4) (189 * i + j) = I (m + 4) (189 * (i + (ac + 1 - mn16 (ac + 1))) + j)
/-- another order of the same crafts -/
def Oth (S S' : BS) (n : Nat) (o : Nat → Nat) : Prop := ROW (bOr S') o n ∧ bF S' = bF S ∧ bSo S' = bSo S ∧ bRe S' = bRe S ∧ bLa S' = bLa S ∧ bWe S' = bWe S ∧ bHu S' = bHu S ∧ bGa S' = bGa S ∧ bSF S' = bSF S ∧ bST S' = bST S ∧ bDo S' = bDo S ∧ bDS S' = bDS S ∧ bDW S' = bDW S
theorem Oth.rel {S' : BS} {r r' : rw1} {o : Nat → Nat} (h : Oth S S' n o) (hR : Rel r S n sn dn) (hn : n ≤ 10) (hs : sn ≤ 4) (hd : dn ≤ 20) (e1 : ∀ q, q < n → r' (46 + q) = nI (o q)) (e2 : ∀ j, j < 46 ∨ 46 + n ≤ j → j < 189 → r' j = r j) : Rel r' S' n sn dn := by
  obtain ⟨g0, g1, g2, g3, g4, g5, g6, g7, g8, g9, g10, g11, g12⟩ := h
  obtain ⟨⟨h1, h2, h3, h4, h5, h6⟩, a, b, c', d', w, q1, q2, q3⟩ := hR
  unfold Rel
  rw [g1, g2, g3, g4, g5, g6, g7, g8, g9, g10, g11, g12]
  refine ⟨⟨by rw [e2 _ (by omega) (by omega)]; exact h1, by rw [e2 _ (by omega) (by omega)]; exact h2, by rw [e2 _ (by omega) (by omega)]; exact h3, by rw [e2 _ (by omega) (by omega)]; exact h4, by rw [e2 _ (by omega) (by omega)]; exact h5, by rw [e2 _ (by omega) (by omega)]; exact h6⟩, fun k hk => ?_, fun k hk => by rw [e2 _ (by omega) (by omega)]; exact b k hk, fun k hk => by rw [e2 _ (by omega) (by omega), e2 _ (by omega) (by omega)]; exact c' k hk, fun i hi => by rw [e2 _ (by omega) (by omega), e2 _ (by omega) (by omega), e2 _ (by omega) (by omega)]; exact d' i hi, w, q1, by rw [e2 _ (by omega) (by omega)]; exact q2, q3⟩
  rw [e2 _ (by omega) (by omega), e2 _ (by omega) (by omega), e2 _ (by omega) (by omega), e2 _ (by omega) (by omega), e1 k hk, g0 k hk]
  have := a k hk
  exact ⟨this.1, this.2.1, this.2.2.1, this.2.2.2.1, rfl⟩
theorem Oth.bi {S' : BS} {o : Nat → Nat} (h : Oth S S' n o) (hI : BI S n sn dn) (ho : ∀ j, j < n → o j < n) : BI S' n sn dn := by
  obtain ⟨g0, g1, g2, g3, g4, g5, g6, g7, g8, g9, g10, g11, g12⟩ := h
  exact BI_ord hI (by rw [g1]) (by rw [g1]) (by rw [g1]) g2 g10 g0 ho
theorem mp_byRanks {S' : BS} {o : Nat → Nat} (hM : LM L m) (hR : Rel (I (m + 1)) S n sn dn) (hI : BI S n sn dn) (hV : BV S n sn dn T) (hP : PI S n) (hac : I m 5 = nI ac) (h16 : ac ≤ 16) (hs : Srt S n (frz S n) (ordN S) o) (hO : Oth S S' n o) (k : ∀ I2, same I I2 (fun a => a = m ∨ a = m + 1 ∨ a = m + 4 ∨ ms m a) → (∀ j, j ≠ 5 → j ≠ 0 → I2 m j = I m j) → I2 m 0 = nI 0 → KP I I2 m ac → Rel (I2 (m + 1)) S' n sn dn → F (cst S' (ordN S') (nI 0) n) (L, I2, J, t)) : cal (d + 7) 238 [.ref m] (L, I, J, t) (kI F X) := by
  have hn := hI.1.2
  have hs4 := hI.2.1.2
  have hd20 := hI.2.2.1.2
  have hol := BI_or hI
  have hu := RelHU hR
  have hfz := frz_le (S := S) (n := n)
  have eP : ∀ i, i < n → I (m + 1) (46 + i) = nI (ordN S i) := fun i hi => (hR.2.1 i hi).2.2.2.2.trans (hol i hi).1
  refine e238 (t238_0 ?_)
  simp (disch := omega) only [vpT, nI_leI, nI_ltI, nI_eq, nleT, nleF, nltT, nltF, neqT, neqF, nI_add, pk_mul, subN, divN, nI_clamp, mI1, wrH, wrM1, wrM2, wrowH, wrowM, bI0, bI1, kIi, kVi, kRi, kLi, kIx, kVx, Option.some.injEq, exists_eq_left', true_and, and_true, true_implies, false_implies, implies_true, not_true_eq_false, not_false_eq_true, true_or, or_true, false_or, or_false, forall_eq, iteT, iteF, LM_ hM]
  refine mp_frozenNow (S := S) (n := n) (sn := sn) (dn := dn) hM (by rw [wrM1 (by omega)]; exact hR) hI hol fun I1 hs1 hL1 => t238_9 ?_
  have m0 : I1 m = wr I m 0 (nI 0) m := hs1 m (by omega)
  have e1 : I1 (m + 1) = I (m + 1) := by rw [hs1 _ (by omega), wrM1 (by omega)]
  have e4 : I1 (m + 4) = I (m + 4) := by rw [hs1 _ (by omega), wrM1 (by omega)]
  simp (disch := omega) only [vpT, nI_leI, nI_ltI, nI_eq, nleT, nleF, nltT, nltF, neqT, neqF, nI_add, pk_mul, subN, divN, nI_clamp, mI1, wrH, wrM1, wrM2, wrowH, wrowM, bI0, bI1, kIi, kVi, kRi, kLi, kIx, kVx, Option.some.injEq, exists_eq_left', true_and, and_true, true_implies, false_implies, implies_true, not_true_eq_false, not_false_eq_true, true_or, or_true, false_or, or_false, forall_eq, iteT, iteF, LM_ hM]
  refine mp_keeps (ac := ac) hM (by rw [m0, wrM2 (by decide)]; exact hac) h16 fun I2 ks kf k5 kk1 kk2 => t238_14 ?_
  have hKP : KP I I2 m ac := ⟨k5, fun j hj => by rw [kk1 j hj, e1], fun i hi j hj => by rw [kk2 i hi j hj, e4]⟩
  have r2 : I2 (m + 1) = I (m + 1) := (ks _ (by omega)).trans e1
  have l2 : ROW (I2 (m + 6)) (ordN S) n := fun j hj => by rw [ks _ (by omega)]; exact hL1.1 j hj
  have hR2 : Rel (I2 (m + 1)) S n sn dn := by rw [r2]; exact hR
  generalize hf : frz S n = f at *
  have fin : ∀ I3 o2 l4 l5 l6, same I2 I3 (fun a => a = m + 1) → (∀ j, j < 46 ∨ 46 + n ≤ j → I3 (m + 1) j = I (m + 1) j) → Srt S n f (ordN S) o2 → (∀ q, q < n → I3 (m + 1) (46 + q) = nI (o2 q)) → Wp (cal (d + 6)) kc_238 [] (kI F X) (18, [some (.ref m), some (.int (nI f)), some (.int (nI n)), some (.int (nI n)), l4, l5, l6], [], (L, I3, J, t)) := by
    intro I3 o2 l4 l5 l6 hs3 h3 hs2 hrow
    have eo := Srt_uni hu hs2 hs
    have hR3 : Rel (I3 (m + 1)) S' n sn dn := hO.rel hR hn hs4 hd20 (fun q hq => by rw [hrow q hq, eo q hq]) (fun j hj _ => h3 j hj)
    have hI' : BI S' n sn dn := hO.bi hI hs.1
    refine t238_18 ?_
    simp (disch := omega) only [vpT, nI_leI, nI_ltI, nI_eq, nleT, nleF, nltT, nltF, neqT, neqF, nI_add, pk_mul, subN, divN, nI_clamp, mI1, wrH, wrM1, wrM2, wrowH, wrowM, bI0, bI1, kIi, kVi, kRi, kLi, kIx, kVx, Option.some.injEq, exists_eq_left', true_and, and_true, true_implies, false_implies, implies_true, not_true_eq_false, not_false_eq_true, true_or, or_true, false_or, or_false, forall_eq, iteT, iteF, LM_ hM, hR3.1.1]
    refine mp_laysPlan (S := S') hM hR3 hI' (BI_or hI') fun I4 hs4' hL4 => t238_118 ?_
    have hR4 : Rel (I4 (m + 1)) S' n sn dn := by rw [hs4' _ (by omega)]; exact hR3
    simp (disch := omega) only [vpT, nI_leI, nI_ltI, nI_eq, nleT, nleF, nltT, nltF, neqT, neqF, nI_add, pk_mul, subN, divN, nI_clamp, mI1, wrH, wrM1, wrM2, wrowH, wrowM, bI0, bI1, kIi, kVi, kRi, kLi, kIx, kVx, Option.some.injEq, exists_eq_left', true_and, and_true, true_implies, false_implies, implies_true, not_true_eq_false, not_false_eq_true, true_or, or_true, false_or, or_false, forall_eq, iteT, iteF, LM_ hM]
    refine mp_costOf hM hR4 hI' (fun j hj => (BI_or hI' j hj).2) hL4 (t238_123 ?_)
    simp (disch := omega) only [vpT, nI_leI, nI_ltI, nI_eq, nleT, nleF, nltT, nltF, neqT, neqF, nI_add, pk_mul, subN, divN, nI_clamp, mI1, wrH, wrM1, wrM2, wrowH, wrowM, bI0, bI1, kIi, kVi, kRi, kLi, kIx, kVx, Option.some.injEq, exists_eq_left', true_and, and_true, true_implies, false_implies, implies_true, not_true_eq_false, not_false_eq_true, true_or, or_true, false_or, or_false, forall_eq, iteT, iteF, LM_ hM]
    have back : ∀ a, a ≠ m + 1 → ¬ ms m a → I4 a = I2 a := fun a q1 q2 => (hs4' a q2).trans (hs3 a q1)
    refine k I4 (fun a ha => ?_) (fun j q1 q2 => ?_) ?_ ?_ hR4
    · rw [back a (fun q => ha (Or.inr (Or.inl q))) (fun q => ha (Or.inr (Or.inr (Or.inr q)))), ks a (fun q => ha (q.elim Or.inl (fun w => Or.inr (Or.inr (Or.inl w))))), hs1 a (fun q => ha (Or.inr (Or.inr (Or.inr q)))), wrM1 (fun q => ha (Or.inl q))]
    · rw [back m (by omega) (by omega), kf j q1, m0, wrM2 q2]
    · rw [back m (by omega) (by omega), kf 0 (by decide), m0, wrH rfl rfl]
    · unfold KP
      rw [back m (by omega) (by omega), back (m + 4) (by omega) (by omega)]
      exact hKP
  -- rank by rank
  refine lg (n := n) (fun r l h => ∃ I3 N g l4 l5 l6, l = [some (.ref m), some (.int (nI f)), some (.int (nI N)), some (.int (nI r)), l4, l5, l6] ∧ h = (L, I3, J, t) ∧ same I2 I3 (fun a => a = m + 1) ∧ (∀ j, j < 46 ∨ 46 + n ≤ j → I3 (m + 1) j = I (m + 1) j) ∧ f ≤ N ∧ N ≤ n ∧ (∀ q, q < N → I3 (m + 1) (46 + q) = nI (g q) ∧ g q < n) ∧ (∀ q, q < f → g q = ordN S q) ∧ (∀ q, f ≤ q → q < N → rk S n (g q) < r) ∧ (∀ i j, f ≤ i → i < j → j < N → rk S n (g i) < rk S n (g j)) ∧ (∀ i j, i < N → j < N → g i = g j → i = j) ∧ (∀ c, c < n → rk S n c < r → ∃ q, q < N ∧ g q = c) ∧ (∀ q, N ≤ q → q < n → I3 (m + 1) (46 + q) = nI (ordN S q))) ?_ ?_ (Nat.zero_le _) _ _ ⟨I2, f, ordN S, _, _, _, rfl, rfl, same.rf, fun j _ => by rw [r2], Nat.le_refl _, hfz, fun q hq => ⟨by rw [r2]; exact eP q (by omega), (hol q (by omega)).2⟩, fun _ _ => rfl, fun q q1 q2 => by omega, fun i j q1 q2 q3 => by omega, fun i j q1 q2 q3 => hP i j (by omega) (by omega) q3, fun c _ q => by omega, fun q _ hq => by rw [r2]; exact eP q hq⟩
  · rintro r hr ih _ _ ⟨I3, N, g, l4, l5, l6, rfl, rfl, hs3, h3, hfN, hNn, g1, g2, g3, g4, g5, g6, g7⟩
    have e0 : I3 (m + 1) 0 = nI n := (h3 0 (by omega)).trans hR.1.1
    -- ranks do not ask the plan
    have hRq : ∀ c (F' : Int32 → hp → Prop) X', c < n → F' (nI (rk S n c)) (L, I3, J, t) → cal (d + 6) 206 [.ref m, .int (nI c)] (L, I3, J, t) (kI F' X') := by
      intro c F' X' hc kk
      have hS3 : Rel (I3 (m + 1)) (S.1, S.2.1, S.2.2.1, S.2.2.2.1, S.2.2.2.2.1, S.2.2.2.2.2.1, (fun j => I3 (m + 1) (46 + j)), S.2.2.2.2.2.2.2) n sn dn := by
        obtain ⟨⟨h1, h2, h3', h4, h5, h6⟩, a, b, c', d', w, q1, q2, q3⟩ := hR
        refine ⟨⟨(h3 _ (by omega)).trans h1, (h3 _ (by omega)).trans h2, (h3 _ (by omega)).trans h3', (h3 _ (by omega)).trans h4, (h3 _ (by omega)).trans h5, (h3 _ (by omega)).trans h6⟩, fun k hk => ?_, fun k hk => (h3 _ (by omega)).trans (b k hk), fun k hk => ⟨(h3 _ (by omega)).trans (c' k hk).1, (h3 _ (by omega)).trans (c' k hk).2⟩, fun i hi => ⟨(h3 _ (by omega)).trans (d' i hi).1, (h3 _ (by omega)).trans (d' i hi).2.1, (h3 _ (by omega)).trans (d' i hi).2.2⟩, w, q1, (h3 _ (by omega)).trans q2, q3⟩
        have := a k hk
        exact ⟨(h3 _ (by omega)).trans this.1, (h3 _ (by omega)).trans this.2.1, (h3 _ (by omega)).trans this.2.2.1, (h3 _ (by omega)).trans this.2.2.2.1, rfl⟩
      refine mp_rankOf (T := T) (S := (S.1, S.2.1, S.2.2.1, S.2.2.2.1, S.2.2.2.2.1, S.2.2.2.2.2.1, (fun j => I3 (m + 1) (46 + j)), S.2.2.2.2.2.2.2)) hM hS3 ⟨hI.1, hI.2.1, hI.2.2.1, hI.2.2.2.1, fun q hq => ?_, hI.2.2.2.2.2⟩ hV hc kk
      by_cases w : q < N
      · exact ⟨g q, (g1 q w).2, (g1 q w).1⟩
      · exact ⟨ordN S q, (hol q hq).2, g7 q (by omega) hq⟩
    obtain ⟨c0, hc0, er⟩ := pigeon (fun c hc => rk_lt (S := S) hc) (rk_inj hu) r hr
    have l3 : ROW (I3 (m + 6)) (ordN S) n := fun j hj => by rw [hs3 _ (by omega)]; exact l2 j hj
    refine t238_18 ?_
    simp (disch := omega) only [vpT, nI_leI, nI_ltI, nI_eq, nleT, nleF, nltT, nltF, neqT, neqF, nI_add, pk_mul, subN, divN, nI_clamp, mI1, wrH, wrM1, wrM2, wrowH, wrowM, bI0, bI1, kIi, kVi, kRi, kLi, kIx, kVx, Option.some.injEq, exists_eq_left', true_and, and_true, true_implies, false_implies, implies_true, not_true_eq_false, not_false_eq_true, true_or, or_true, false_or, or_false, forall_eq, iteT, iteF, LM_ hM, e0]
    refine lg (n := n) (fun i l h => ∃ l5 l6, l = [some (.ref m), some (.int (nI f)), some (.int (nI N)), some (.int (nI r)), some (.int (nI i)), l5, l6] ∧ h = (L, I3, J, t) ∧ i ≤ c0) ?_ ?_ (Nat.zero_le _) _ _ ⟨_, _, rfl, rfl, Nat.zero_le _⟩
    · rintro i hi ihw _ _ ⟨l5, l6, rfl, rfl, hic⟩
      refine t238_31 ?_
      simp (disch := omega) only [vpT, nI_leI, nI_ltI, nI_eq, nleT, nleF, nltT, nltF, neqT, neqF, nI_add, pk_mul, subN, divN, nI_clamp, mI1, wrH, wrM1, wrM2, wrowH, wrowM, bI0, bI1, kIi, kVi, kRi, kLi, kIx, kVx, Option.some.injEq, exists_eq_left', true_and, and_true, true_implies, false_implies, implies_true, not_true_eq_false, not_false_eq_true, true_or, or_true, false_or, or_false, forall_eq, iteT, iteF, LM_ hM]
      refine hRq i _ _ hi (t238_37 ?_)
      have hrk := rk_lt (S := S) hi
      simp (disch := omega) only [vpT, nI_leI, nI_ltI, nI_eq, nleT, nleF, nltT, nltF, neqT, neqF, nI_add, pk_mul, subN, divN, nI_clamp, mI1, wrH, wrM1, wrM2, wrowH, wrowM, bI0, bI1, kIi, kVi, kRi, kLi, kIx, kVx, Option.some.injEq, exists_eq_left', true_and, and_true, true_implies, false_implies, implies_true, not_true_eq_false, not_false_eq_true, true_or, or_true, false_or, or_false, forall_eq, iteT, iteF, LM_ hM]
      refine ⟨fun h => ?_, fun h => ihw _ _ ⟨_, _, rfl, rfl, ?_⟩⟩
      · have hic0 : i = c0 := rk_inj hu i c0 hi hc0 (by omega)
        subst hic0
        refine lg (n := f) (fun j l h => l = [some (.ref m), some (.int (nI f)), some (.int (nI N)), some (.int (nI r)), some (.int (nI i)), some (.int (bI (usd (ordN S) j i))), some (.int (nI j))] ∧ h = (L, I3, J, t)) ?_ ?_ (Nat.zero_le _) _ _ ⟨rfl, rfl⟩
        · rintro j hj ihj _ _ ⟨rfl, rfl⟩
          have hoj := (hol j (by omega)).2
          refine t238_53 ?_
          simp (disch := omega) only [vpT, nI_leI, nI_ltI, nI_eq, nleT, nleF, nltT, nltF, neqT, neqF, nI_add, pk_mul, subN, divN, nI_clamp, mI1, wrH, wrM1, wrM2, wrowH, wrowM, bI0, bI1, kIi, kVi, kRi, kLi, kIx, kVx, Option.some.injEq, exists_eq_left', true_and, and_true, true_implies, false_implies, implies_true, not_true_eq_false, not_false_eq_true, true_or, or_true, false_or, or_false, forall_eq, iteT, iteF, LM_ hM, l3 j (by omega)]
          refine ⟨fun q => ihj _ _ ⟨?_, rfl⟩, fun q => ⟨fun w => ihj _ _ ⟨?_, rfl⟩, fun w => ihj _ _ ⟨?_, rfl⟩⟩⟩
          · rw [usd_succ, btf q]; rfl
          · rw [usd_succ, q, decide_eq_false (fun z => w z.symm)]; rfl
          · rw [usd_succ, q, decide_eq_true w.symm]; rfl
        · rintro _ _ ⟨rfl, rfl⟩
          have old : ∀ c, c < n → rk S n c < r + 1 → rk S n c < r ∨ c = i := fun c hc w => by
            by_cases e : rk S n c < r
            · exact Or.inl e
            · exact Or.inr (rk_inj hu c i hc hi (by omega))
          refine t238_53 ?_
          by_cases hus : usd (ordN S) f i = true
          · rw [hus]
            have n10 : (nI 1 = nI 0) = False := eq_false nI10
            simp (disch := omega) only [vpT, nI_leI, nI_ltI, nI_eq, nleT, nleF, nltT, nltF, neqT, neqF, nI_add, pk_mul, subN, divN, nI_clamp, mI1, wrH, wrM1, wrM2, wrowH, wrowM, bI0, bI1, kIi, kVi, kRi, kLi, kIx, kVx, Option.some.injEq, exists_eq_left', true_and, and_true, true_implies, false_implies, implies_true, not_true_eq_false, not_false_eq_true, true_or, or_true, false_or, or_false, forall_eq, iteT, iteF, LM_ hM, bI_t, n10]
            obtain ⟨q, hq, eq⟩ := usd_iff.mp hus
            refine ih _ _ ⟨I3, N, g, _, _, _, rfl, rfl, hs3, h3, hfN, hNn, g1, g2, fun q q1 q2 => by have := g3 q q1 q2; omega, g4, g5, fun c hc w => ?_, g7⟩
            rcases old c hc w with z | z
            · exact g6 c hc z
            · exact ⟨q, by omega, by rw [g2 q hq, eq, z]⟩
          · have hus' : usd (ordN S) f i = false := by simpa using hus
            rw [hus']
            have hnew : ∀ q, q < N → g q ≠ i := fun q hq w => by
              by_cases z : q < f
              · rw [g2 q z] at w; exact usd_f.mp hus' q z w
              · have := g3 q (by omega) hq; rw [w] at this; omega
            have up1 : ∀ q, q < N + 1 → upk g N i q < n := fun q hq => by
              by_cases z : q = N
              · rw [z, upk_e]; exact hi
              · rw [upk_n z]; exact (g1 q (by omega)).2
            have up2 : ∀ q s, q < N + 1 → s < N + 1 → upk g N i q = upk g N i s → q = s := fun q s hq hs' w => by
              by_cases z1 : q = N <;> by_cases z2 : s = N
              · omega
              · rw [z1, upk_e, upk_n z2] at w; exact absurd w.symm (hnew s (by omega))
              · rw [z2, upk_e, upk_n z1] at w; exact absurd w (hnew q (by omega))
              · rw [upk_n z1, upk_n z2] at w; exact g5 q s (by omega) (by omega) w
            have hN1 := inj_le up1 up2
            simp (disch := omega) only [vpT, nI_leI, nI_ltI, nI_eq, nleT, nleF, nltT, nltF, neqT, neqF, nI_add, pk_mul, subN, divN, nI_clamp, mI1, wrH, wrM1, wrM2, wrowH, wrowM, bI0, bI1, kIi, kVi, kRi, kLi, kIx, kVx, Option.some.injEq, exists_eq_left', true_and, and_true, true_implies, false_implies, implies_true, not_true_eq_false, not_false_eq_true, true_or, or_true, false_or, or_false, forall_eq, iteT, iteF, LM_ hM, bI_f]
            refine ih _ _ ⟨_, N + 1, upk g N i, _, _, _, rfl, rfl, fun a ha => by rw [wrM1 ha]; exact hs3 a ha, fun j hj => by rw [wrM2 (by omega)]; exact h3 j hj, by omega, hN1, fun q hq => ⟨?_, up1 q hq⟩, fun q hq => by rw [upk_n (by omega)]; exact g2 q hq, fun q q1 q2 => ?_, fun q s q1 q2 q3 => ?_, up2, fun c hc w => ?_, fun q q1 q2 => by rw [wrM2 (by omega)]; exact g7 q (by omega) q2⟩
            · by_cases z : q = N
              · rw [wrH rfl (by omega), z, upk_e]
              · rw [wrM2 (by omega), upk_n z]; exact (g1 q (by omega)).1
            · by_cases z : q = N
              · rw [z, upk_e]; omega
              · rw [upk_n z]; have := g3 q q1 (by omega); omega
            · rw [upk_n (show q ≠ N by omega)]
              by_cases z : s = N
              · rw [z, upk_e]; have := g3 q q1 (by omega); omega
              · rw [upk_n z]; exact g4 q s q1 q2 (by omega)
            · rcases old c hc w with z | z
              · obtain ⟨q, hq, eq⟩ := g6 c hc z
                exact ⟨q, by omega, by rw [upk_n (by omega)]; exact eq⟩
              · exact ⟨N, by omega, by rw [upk_e, z]⟩
      · have : i ≠ c0 := fun e => h (by rw [e]; exact er)
        omega
    · rintro _ _ ⟨l5, l6, rfl, rfl, hic⟩
      omega
  · rintro _ _ ⟨I3, N, g, l4, l5, l6, rfl, rfl, hs3, h3, hfN, hNn, g1, g2, g3, g4, g5, g6, g7⟩
    have hN : N = n := Nat.le_antisymm hNn (surj_le (f := g) fun v hv => g6 v hv (rk_lt hv))
    subst hN
    exact fin I3 g _ _ _ hs3 h3 ⟨fun j hj => (g1 j hj).2, g5, g2, g4⟩ (fun q hq => (g1 q hq).1)
end MRANK
