/-! The model: time goes on; around. -/
theorem BI_or {S : BS} {n sn dn : Nat} (h : BI S n sn dn) : ∀ j, j < n → bOr S j = nI (ordN S j) ∧ ordN S j < n := fun j hj => by
  obtain ⟨z, hz, e⟩ := h.2.2.2.2.1 j hj
  have := h.1.2
  unfold ordN
  rw [e, nI_clamp (by omega)]
  exact ⟨rfl, hz⟩
/-- the boards on the way -/
def Chn (sl : Nat → Int32) (n dn D : Nat) (sq tq : Nat → BS) : Prop := ∀ j, j < D → DnA (sq j) (tq j) (mn20 (dn + j)) (mn20 (dn + j + 1)) (bSo (sq j) (ordN (sq j) 0)) (sl j) (sl j - bRe (sq j) (ordN (sq j) 0)) ∧ Rmv (tq j) (sq (j + 1)) (n - j) (ordN (sq j) 0) 0
theorem Pss_chn {sl : Nat → Int32} {n dn : Nat} : ∀ {D : Nat} {S S' : BS}, Pss sl n dn D S S' → ∃ sq tq, sq 0 = S ∧ sq D = S' ∧ Chn sl n dn D sq tq
  | 0, S, S', h => ⟨fun _ => S, fun _ => S, rfl, h.symm, fun j hj => by omega⟩
  | D + 1, S, S', h => by
    obtain ⟨S1, T, h1, h2, h3⟩ := h
    obtain ⟨sq, tq, e0, eD, hc⟩ := Pss_chn h1
    refine ⟨fun j => if j = D + 1 then S' else sq j, fun j => if j = D then T else tq j, (if_neg (by omega)).trans e0, if_pos rfl, fun j hj => ?_⟩
    by_cases e : j = D
    · subst e
      simp only [if_neg (show ¬ j = j + 1 by omega), if_pos rfl, eD]
      exact ⟨h2, h3⟩
    · simp only [if_neg (show ¬ j = D + 1 by omega), if_neg e, if_neg (show ¬ j + 1 = D + 1 by omega)]
      exact hc j (by omega)
section CHAIN
variable {sl : Nat → Int32} {n sn dn D : Nat} {sq tq : Nat → BS}
theorem Chn.bi (hc : Chn sl n dn D sq tq) (hI : BI (sq 0) n sn dn) (hP : PI (sq 0) n) (hD : D ≤ n) : ∀ j, j ≤ D → BI (sq j) (n - j) sn (mn20 (dn + j)) ∧ PI (sq j) (n - j) := by
  intro j
  induction j with
  | zero =>
    intro _
    have : mn20 (dn + 0) = dn := by have := hI.2.2.1.2; unfold mn20; omega
    rw [this]
    exact ⟨hI, hP⟩
  | succ j ih =>
    intro hj
    obtain ⟨a, b⟩ := ih (by omega)
    obtain ⟨h1, h2⟩ := hc j (by omega)
    obtain ⟨z, hz, ez⟩ := a.2.2.2.1 _ (BI_or a 0 (by omega)).2
    have hm : mn20 (dn + j + 1) = mn20 (mn20 (dn + j) + 1) := by unfold mn20; omega
    rw [hm] at h1
    have hT := DnA_BI a h1 hz ez
    have ho : ordN (tq j) = ordN (sq j) := by unfold ordN; rw [h1.2.1.2.2.2.2.2.1]
    have := Rmv_BI hT (DnA_PI b h1) (show 0 < n - j by omega) (by rw [ho]) h2
    rw [show n - (j + 1) = n - j - 1 by omega, show dn + (j + 1) = dn + j + 1 by omega, hm]
    exact this
/-- which one of the first board each one is -/
theorem Chn.emb (hc : Chn sl n dn D sq tq) (hI : BI (sq 0) n sn dn) (hP : PI (sq 0) n) (hD : D ≤ n) : ∀ j, j ≤ D → ∃ e : Nat → Nat, (∀ k, k < n - j → e k < n ∧ bSo (sq j) k = bSo (sq 0) (e k) ∧ bRe (sq j) k = bRe (sq 0) (e k) ∧ bLa (sq j) k = bLa (sq 0) (e k) ∧ bWe (sq j) k = bWe (sq 0) (e k) ∧ bHu (sq j) k = bHu (sq 0) (e k)) ∧ ∀ k, k < n - j → e (ordN (sq j) k) = ordN (sq 0) (j + k) := by
  intro j
  induction j with
  | zero => intro _; exact ⟨id, fun k hk => ⟨hk, rfl, rfl, rfl, rfl, rfl⟩, fun k hk => by rw [Nat.zero_add]; rfl⟩
  | succ j ih =>
    intro hj
    obtain ⟨e, h1, h2⟩ := ih (by omega)
    obtain ⟨a, b⟩ := hc.bi hI hP hD j (by omega)
    obtain ⟨g1, g2⟩ := hc j (by omega)
    obtain ⟨-, ⟨r1, r2, r3, r4, r5, r6, -⟩, -⟩ := g1
    obtain ⟨-, rr, -⟩ := g2
    have ho : ordN (tq j) = ordN (sq j) := by unfold ordN; rw [r6]
    rw [r1, r2, r3, r4, r5, ho] at rr
    refine ⟨fun k => e (sk (ordN (sq j) 0) k), fun k hk => ?_, fun k hk => ?_⟩
    · have q := rr k (by omega)
      have w := h1 (sk (ordN (sq j) 0) k) (sk_lt (by omega))
      exact ⟨w.1, q.1.trans w.2.1, q.2.1.trans w.2.2.1, q.2.2.1.trans w.2.2.2.1, q.2.2.2.1.trans w.2.2.2.2.1, q.2.2.2.2.1.trans w.2.2.2.2.2⟩
    · have q := (rr k (by omega)).2.2.2.2.2
      have bnd := (BI_or a (k + 1) (by omega)).2
      have ne : ordN (sq j) (k + 1) ≠ ordN (sq j) 0 := fun w => by have := b _ _ (by omega) (by omega) w; omega
      have hn := hI.1.2
      have eo : ordN (sq (j + 1)) k = dn1 (ordN (sq j) 0) (ordN (sq j) (k + 1)) := by
        have : dn1 (ordN (sq j) 0) (ordN (sq j) (sk 0 k)) < 20 := by rw [sk_g (Nat.zero_le _)]; unfold dn1; split <;> omega
        unfold ordN
        rw [q, nI_clamp (by omega), sk_g (Nat.zero_le _)]
        rfl
      show e (sk (ordN (sq j) 0) (ordN (sq (j + 1)) k)) = _
      rw [eo]
      have : sk (ordN (sq j) 0) (dn1 (ordN (sq j) 0) (ordN (sq j) (k + 1))) = ordN (sq j) (k + 1) := by unfold sk dn1; split <;> split <;> omega
      rw [this, h2 (k + 1) (by omega)]
      congr 1
      omega
end CHAIN
/-- what those done cost, so far -/
def dCo (S : BS) (o : Nat → Nat) (c0 : Int32) : Nat → Int32
  | 0 => c0
  | i + 1 => dCo S o c0 i + (slt S o i - bRe S (o i)) * bWe S (o i)
def dLa (S : BS) (o : Nat → Nat) (c0 : Int32) : Nat → Int32
  | 0 => c0
  | i + 1 => mx (dLa S o c0 i) (slt S o i)
def dWa (S : BS) (o : Nat → Nat) (c0 : Int32) : Nat → Int32
  | 0 => c0
  | i + 1 => mx (dWa S o c0 i) (slt S o i - bRe S (o i))
theorem due_spec {f : Nat → Int32} {x : Int32} : ∀ {m k : Nat}, (∀ j, k ≤ j → j < due f x m k → ¬ x < f j) ∧ (due f x m k < k + m → x < f (due f x m k)) ∧ k ≤ due f x m k
  | 0, k => ⟨fun j h1 h2 => by unfold due at h2; omega, fun h => by unfold due at h; omega, Nat.le_refl _⟩
  | m + 1, k => by
    have ih := due_spec (f := f) (x := x) (m := m) (k := k + 1)
    unfold due
    by_cases h : x < f k
    · rw [if_pos h]
      exact ⟨fun j h1 h2 => by omega, fun _ => h, Nat.le_refl _⟩
    · rw [if_neg h]
      refine ⟨fun j h1 h2 => ?_, fun q => ih.2.1 (by omega), by omega⟩
      by_cases e : j = k
      · rw [e]; exact h
      · exact ih.1 j (by omega) h2
section MODEL6
variable {d : Nat} {L : hL} {I : Nat → Nat → Int32} {J : Nat → Nat → Int64} {t : tl} {m n sn dn T sh D : Nat} {S S1 : BS} {o : Nat → Nat} {x : Int32} {F : Int32 → hp → Prop} {G : hp → Prop} {X : Nat → hp → Prop}
--facts LM_ hM
theorem mp_passesTo (hM : LM L m) (hR : Rel (I (m + 1)) S n sn dn) (hI : BI S n sn dn) (hP : PI S n) (hD : due (slt S (ordN S)) x n 0 = D) (hps : Pss (slt S (ordN S)) n dn D S S1) (k : ∀ I2, same I I2 (fun a => a = m ∨ a = m + 1 ∨ ms m a) → (∀ j, j < 25 ∨ 27 < j → I2 m j = I m j) → I2 m 25 = dCo S (ordN S) (I m 25) D → I2 m 26 = dLa S (ordN S) (I m 26) D → I2 m 27 = dWa S (ordN S) (I m 27) D → Rel (I2 (m + 1)) (fun j => if j = 13 then x else bF S1 j, S1.2) (n - D) sn (mn20 (dn + D)) → (I (m + 1) 188 = nI 0 → I2 (m + 1) 188 = nI 0) → F (nI D) (L, I2, J, t)) : cal (d + 5) 252 [.ref m, .int x] (L, I, J, t) (kI F X) := by
  have hn := hI.1.2
  have hs4 := hI.2.1.2
  have hDn : D ≤ n := by rw [← hD]; have := due_le (f := slt S (ordN S)) (x := x) (m := n) (k := 0); omega
  have hsp := due_spec (f := slt S (ordN S)) (x := x) (m := n) (k := 0)
  rw [hD] at hsp
  have hol := BI_or hI
  obtain ⟨sq, tq, e0, eD, hc⟩ := Pss_chn hps
  subst e0
  subst eD
  have bi := hc.bi hI hP hDn
  refine e252 (t252_0 ?_)
  simp (disch := omega) only [vpT, nI_leI, nI_ltI, nI_eq, nleT, nleF, nltT, nltF, neqT, neqF, nI_add, pk_mul, subN, divN, nI_clamp, mI1, wrH, wrM1, wrM2, wrowH, wrowM, bI0, bI1, kIi, kVi, kRi, kLi, kIx, kVx, Option.some.injEq, exists_eq_left', true_and, and_true, true_implies, false_implies, implies_true, not_true_eq_false, not_false_eq_true, true_or, or_true, false_or, or_false, forall_eq, iteT, iteF, LM_ hM]
  refine mp_laysPlan hM hR hI hol fun I1 hs1 hL1 => t252_4 ?_
  have hR1 : Rel (I1 (m + 1)) (sq 0) n sn dn := by rw [hs1 _ (by omega)]; exact hR
  -- behind the first loop: those done are taken out
  have out : ∀ I2, RelA (I2 (m + 1)) (sq 0) n sn → RelD (I2 (m + 1)) (sq D) (mn20 (dn + D)) → same I I2 (fun a => a = m ∨ a = m + 1 ∨ ms m a) → (∀ j, j < 25 ∨ 27 < j → I2 m j = I m j) → I2 m 25 = dCo (sq 0) (ordN (sq 0)) (I m 25) D → I2 m 26 = dLa (sq 0) (ordN (sq 0)) (I m 26) D → I2 m 27 = dWa (sq 0) (ordN (sq 0)) (I m 27) D → I2 (m + 1) 188 = I (m + 1) 188 → Wp (cal (d + 4)) kc_252 [] (kI F X) (113, [some (.ref m), some (.int x), some (.int (nI D)), some (.int (nI 0))], [], (L, I2, J, t)) := by
    intro I2 hA hDn' b1 b2 b3 b4 b5 b6
    refine lg (n := D) (fun i l h => ∃ I3, l = [some (.ref m), some (.int x), some (.int (nI D)), some (.int (nI i))] ∧ h = (L, I3, J, t) ∧ RelA (I3 (m + 1)) (sq i) (n - i) sn ∧ RelD (I3 (m + 1)) (sq D) (mn20 (dn + D)) ∧ same I2 I3 (fun a => a = m + 1) ∧ (I (m + 1) 188 = nI 0 → I3 (m + 1) 188 = nI 0)) ?_ ?_ (Nat.zero_le _) _ _ ⟨I2, rfl, rfl, hA, hDn', same.rf, fun w => b6.trans w⟩
    · rintro i hi ih _ _ ⟨I3, rfl, rfl, gA, gD, gs, gh⟩
      obtain ⟨q1, q2⟩ := bi i (by omega)
      obtain ⟨w1, w2⟩ := hc i hi
      have gT := gA.dna w1
      have ho : ordN (tq i) = ordN (sq i) := by unfold ordN; rw [w1.2.1.2.2.2.2.2.1]
      have holT : ∀ j, j < n - i → bOr (tq i) j = nI (ordN (tq i) j) ∧ ordN (tq i) j < n - i := by
        rw [ho, w1.2.1.2.2.2.2.2.1]
        exact BI_or q1
      have e46 : I3 (m + 1) 46 = nI (ordN (sq i) 0) := by
        have := (gT.2.1 0 (by omega)).2.2.2.2
        rw [Nat.add_zero, (holT 0 (by omega)).1, ho] at this
        exact this
      refine t252_113 ?_
      simp (disch := omega) only [vpT, nI_leI, nI_ltI, nI_eq, nleT, nleF, nltT, nltF, neqT, neqF, nI_add, pk_mul, subN, divN, nI_clamp, mI1, wrH, wrM1, wrM2, wrowH, wrowM, bI0, bI1, kIi, kVi, kRi, kLi, kIx, kVx, Option.some.injEq, exists_eq_left', true_and, and_true, true_implies, false_implies, implies_true, not_true_eq_false, not_false_eq_true, true_or, or_true, false_or, or_false, forall_eq, iteT, iteF, LM_ hM, e46]
      refine mp_takesOut (S := tq i) (n := n - i) (sn := sn) (p := 0) hM gT (by omega) hs4 (DnA_PI q2 w1) holT (by omega) (by rw [ho]) fun I4 ks kA k5 kD kh => t252_129 ?_
      simp (disch := omega) only [vpT, nI_leI, nI_ltI, nI_eq, nleT, nleF, nltT, nltF, neqT, neqF, nI_add, pk_mul, subN, divN, nI_clamp, mI1, wrH, wrM1, wrM2, wrowH, wrowM, bI0, bI1, kIi, kVi, kRi, kLi, kIx, kVx, Option.some.injEq, exists_eq_left', true_and, and_true, true_implies, false_implies, implies_true, not_true_eq_false, not_false_eq_true, true_or, or_true, false_or, or_false, forall_eq, iteT, iteF, LM_ hM]
      refine ih _ _ ⟨I4, rfl, rfl, ?_, gD.congr mn20_le k5 kD rfl rfl rfl, gs.tr ks, fun w => ?_⟩
      rotate_left
      · have := kh 0 (by decide) (gh w)
        rw [this]
        unfold hurm
        rw [Nat.zero_mod, Nat.zero_div, Nat.zero_mul]
      rw [show n - (i + 1) = n - i - 1 by omega]
      exact kA _ w2
    · rintro _ _ ⟨I3, rfl, rfl, gA, gD, gs, gh⟩
      refine t252_113 ?_
      simp (disch := omega) only [vpT, nI_leI, nI_ltI, nI_eq, nleT, nleF, nltT, nltF, neqT, neqF, nI_add, pk_mul, subN, divN, nI_clamp, mI1, wrH, wrM1, wrM2, wrowH, wrowM, bI0, bI1, kIi, kVi, kRi, kLi, kIx, kVx, Option.some.injEq, exists_eq_left', true_and, and_true, true_implies, false_implies, implies_true, not_true_eq_false, not_false_eq_true, true_or, or_true, false_or, or_false, forall_eq, iteT, iteF, LM_ hM]
      refine k _ (fun a ha => ?_) (fun j hj => ?_) ?_ ?_ ?_ (Rel_AD.mpr ⟨?_, ?_⟩) (fun w => by rw [wrM2 (by omega)]; exact gh w)
      · have : a ≠ m + 1 := fun q => ha (Or.inr (Or.inl q))
        simp (disch := omega) only [vpT, nI_leI, nI_ltI, nI_eq, nleT, nleF, nltT, nltF, neqT, neqF, nI_add, pk_mul, subN, divN, nI_clamp, mI1, wrH, wrM1, wrM2, wrowH, wrowM, bI0, bI1, kIi, kVi, kRi, kLi, kIx, kVx, Option.some.injEq, exists_eq_left', true_and, and_true, true_implies, false_implies, implies_true, not_true_eq_false, not_false_eq_true, true_or, or_true, false_or, or_false, forall_eq, iteT, iteF, LM_ hM]
        rw [gs a this]
        exact b1 a ha
      · rw [wrM1 (by omega), gs _ (by omega)]; exact b2 j hj
      · rw [wrM1 (by omega), gs _ (by omega)]; exact b3
      · rw [wrM1 (by omega), gs _ (by omega)]; exact b4
      · rw [wrM1 (by omega), gs _ (by omega)]; exact b5
      · obtain ⟨⟨a1, a2, a3, a4, a5⟩, b, c', d', w, f1, f2, f3⟩ := gA
        have ne : ∀ j, j ≠ 1 → wr I3 (m + 1) 1 x (m + 1) j = I3 (m + 1) j := fun j hj => wrM2 hj
        refine ⟨⟨by rw [ne _ (by omega)]; exact a1, by rw [wrH rfl rfl]; rfl, by rw [ne _ (by omega)]; exact a3, by rw [ne _ (by omega)]; exact a4, by rw [ne _ (by omega)]; exact a5⟩, fun k hk => ?_, fun k hk => by rw [ne _ (by omega)]; exact c' k hk, fun k hk => by rw [ne _ (by omega), ne _ (by omega)]; exact d' k hk, w, f1, by rw [ne _ (by omega)]; exact f2, f3⟩
        rw [ne _ (by omega), ne _ (by omega), ne _ (by omega), ne _ (by omega), ne _ (by omega)]
        exact b k hk
      · exact gD.congr mn20_le (wrM2 (by omega)) (fun j h1 h2 => wrM2 (by omega)) rfl rfl rfl
  refine lg (n := D) (fun i l h => ∃ I2 l3, l = [some (.ref m), some (.int x), some (.int (nI i)), l3] ∧ h = (L, I2, J, t) ∧ RelA (I2 (m + 1)) (sq 0) n sn ∧ RelD (I2 (m + 1)) (sq i) (mn20 (dn + i)) ∧ same I I2 (fun a => a = m ∨ a = m + 1 ∨ ms m a) ∧ (∀ j, j < 25 ∨ 27 < j → I2 m j = I m j) ∧ I2 m 25 = dCo (sq 0) (ordN (sq 0)) (I m 25) i ∧ I2 m 26 = dLa (sq 0) (ordN (sq 0)) (I m 26) i ∧ I2 m 27 = dWa (sq 0) (ordN (sq 0)) (I m 27) i ∧ ML I2 m (sq 0) (ordN (sq 0)) n ∧ I2 (m + 1) 188 = I (m + 1) 188) ?_ ?_ (Nat.zero_le _) _ _ ⟨I1, _, rfl, rfl, (Rel_AD.mp hR1).1, ?_, hs1.up (fun a h => Or.inr (Or.inr h)), fun j _ => congrFun (hs1 m (by omega)) j, congrFun (hs1 m (by omega)) 25, congrFun (hs1 m (by omega)) 26, congrFun (hs1 m (by omega)) 27, hL1, congrFun (hs1 (m + 1) (by omega)) 188⟩
  · rintro i hi ih _ _ ⟨I2, l3, rfl, rfl, gA, gD, gs, g0, g25, g26, g27, gL, g188⟩
    have hoi := (hol i (by omega)).2
    obtain ⟨w1, w2⟩ := hc i hi
    obtain ⟨emb, m1, m2⟩ := hc.emb hI hP hDn i (by omega)
    have hz := (BI_or (bi i (by omega)).1 0 (by omega)).2
    have ec : emb (ordN (sq i) 0) = ordN (sq 0) i := m2 0 (by omega)
    have hso : bSo (sq i) (ordN (sq i) 0) = bSo (sq 0) (ordN (sq 0) i) := by rw [(m1 _ hz).2.1, ec]
    have hre : bRe (sq i) (ordN (sq i) 0) = bRe (sq 0) (ordN (sq 0) i) := by rw [(m1 _ hz).2.2.1, ec]
    rw [hso, hre] at w1
    have rd : ∀ (I' : Nat → Nat → Int32) (w : Nat), I' (m + 1) = I2 (m + 1) → w < 4 → I' (m + 1) (6 + 4 * ordN (sq 0) i + w) = (match w with | 0 => bSo (sq 0) (ordN (sq 0) i) | 1 => bRe (sq 0) (ordN (sq 0) i) | 2 => bLa (sq 0) (ordN (sq 0) i) | _ => bWe (sq 0) (ordN (sq 0) i)) := by
      intro I' w e hw
      rw [e]
      have q := gA.2.1 _ hoi
      match w, hw with
      | 0, _ => exact q.1
      | 1, _ => exact q.2.1
      | 2, _ => exact q.2.2.1
      | 3, _ => exact q.2.2.2.1
    have s1 := gL.2 i (by omega)
    have s2 := gL.1 i (by omega)
    refine t252_6 ?_
    simp (disch := omega) only [vpT, nI_leI, nI_ltI, nI_eq, nleT, nleF, nltT, nltF, neqT, neqF, nI_add, pk_mul, subN, divN, nI_clamp, mI1, wrH, wrM1, wrM2, wrowH, wrowM, bI0, bI1, kIi, kVi, kRi, kLi, kIx, kVx, Option.some.injEq, exists_eq_left', true_and, and_true, true_implies, false_implies, implies_true, not_true_eq_false, not_false_eq_true, true_or, or_true, false_or, or_false, forall_eq, iteT, iteF, LM_ hM, gA.1.1, s1]
    rw [show (x < slt (sq 0) (ordN (sq 0)) i) = False from eq_false (hsp.1 i (Nat.zero_le _) hi)]
    simp (disch := omega) only [vpT, nI_leI, nI_ltI, nI_eq, nleT, nleF, nltT, nltF, neqT, neqF, nI_add, pk_mul, subN, divN, nI_clamp, mI1, wrH, wrM1, wrM2, wrowH, wrowM, bI0, bI1, kIi, kVi, kRi, kLi, kIx, kVx, Option.some.injEq, exists_eq_left', true_and, and_true, true_implies, false_implies, implies_true, not_true_eq_false, not_false_eq_true, true_or, or_true, false_or, or_false, forall_eq, iteT, iteF, LM_ hM]
    refine e209 (t209_0 ?_)
    simp (disch := omega) only [vpT, nI_leI, nI_ltI, nI_eq, nleT, nleF, nltT, nltF, neqT, neqF, nI_add, pk_mul, subN, divN, nI_clamp, mI1, wrH, wrM1, wrM2, wrowH, wrowM, bI0, bI1, kIi, kVi, kRi, kLi, kIx, kVx, Option.some.injEq, exists_eq_left', true_and, and_true, true_implies, false_implies, implies_true, not_true_eq_false, not_false_eq_true, true_or, or_true, false_or, or_false, forall_eq, iteT, iteF, LM_ hM, s1, s2]
    refine mp_ofCraft (w := 1) hM (by omega) (by decide) (t209_17 ?_)
    rw [rd I2 1 rfl (by decide)]
    refine t252_31 ?_
    simp (disch := omega) only [vpT, nI_leI, nI_ltI, nI_eq, nleT, nleF, nltT, nltF, neqT, neqF, nI_add, pk_mul, subN, divN, nI_clamp, mI1, wrH, wrM1, wrM2, wrowH, wrowM, bI0, bI1, kIi, kVi, kRi, kLi, kIx, kVx, Option.some.injEq, exists_eq_left', true_and, and_true, true_implies, false_implies, implies_true, not_true_eq_false, not_false_eq_true, true_or, or_true, false_or, or_false, forall_eq, iteT, iteF, LM_ hM, s2]
    refine mp_ofCraft (w := 3) hM (by omega) (by decide) (t252_49 ?_)
    rw [rd I2 3 rfl (by decide)]
    simp (disch := omega) only [vpT, nI_leI, nI_ltI, nI_eq, nleT, nleF, nltT, nltF, neqT, neqF, nI_add, pk_mul, subN, divN, nI_clamp, mI1, wrH, wrM1, wrM2, wrowH, wrowM, bI0, bI1, kIi, kVi, kRi, kLi, kIx, kVx, Option.some.injEq, exists_eq_left', true_and, and_true, true_implies, false_implies, implies_true, not_true_eq_false, not_false_eq_true, true_or, or_true, false_or, or_false, forall_eq, iteT, iteF, LM_ hM, s1, s2, g25, g26, g27]
    generalize hI3 : wr (wr (wr I2 m 25 _) m 26 _) m 27 _ = I3
    have b0 : ∀ a, a ≠ m → I3 a = I2 a := fun a ha => by rw [← hI3]; simp (disch := omega) only [vpT, nI_leI, nI_ltI, nI_eq, nleT, nleF, nltT, nltF, neqT, neqF, nI_add, pk_mul, subN, divN, nI_clamp, mI1, wrH, wrM1, wrM2, wrowH, wrowM, bI0, bI1, kIi, kVi, kRi, kLi, kIx, kVx, Option.some.injEq, exists_eq_left', true_and, and_true, true_implies, false_implies, implies_true, not_true_eq_false, not_false_eq_true, true_or, or_true, false_or, or_false, forall_eq, iteT, iteF, LM_ hM]
    refine mp_ofCraft (w := 0) hM (by omega) (by decide) (t252_95 ?_)
    rw [rd I3 0 (b0 _ (by omega)) (by decide)]
    simp (disch := omega) only [vpT, nI_leI, nI_ltI, nI_eq, nleT, nleF, nltT, nltF, neqT, neqF, nI_add, pk_mul, subN, divN, nI_clamp, mI1, wrH, wrM1, wrM2, wrowH, wrowM, bI0, bI1, kIi, kVi, kRi, kLi, kIx, kVx, Option.some.injEq, exists_eq_left', true_and, and_true, true_implies, false_implies, implies_true, not_true_eq_false, not_false_eq_true, true_or, or_true, false_or, or_false, forall_eq, iteT, iteF, LM_ hM, b0 (m + 7) (by omega), s1]
    have hm : mn20 (mn20 (dn + i) + 1) = mn20 (dn + i + 1) := by unfold mn20; omega
    refine mp_isDone (S := sq i) (dn := mn20 (dn + i)) hM (by rw [b0 _ (by omega)]; exact gD) mn20_le fun I4 ks kD kO => t252_105 ?_
    simp (disch := omega) only [vpT, nI_leI, nI_ltI, nI_eq, nleT, nleF, nltT, nltF, neqT, neqF, nI_add, pk_mul, subN, divN, nI_clamp, mI1, wrH, wrM1, wrM2, wrowH, wrowM, bI0, bI1, kIi, kVi, kRi, kLi, kIx, kVx, Option.some.injEq, exists_eq_left', true_and, and_true, true_implies, false_implies, implies_true, not_true_eq_false, not_false_eq_true, true_or, or_true, false_or, or_false, forall_eq, iteT, iteF, LM_ hM]
    have c0 : ∀ a, a ≠ m → a ≠ m + 1 → I4 a = I2 a := fun a h1 h2 => (ks a h2).trans (b0 a h1)
    have cm : I4 m = I3 m := ks m (by omega)
    refine ih _ _ ⟨I4, _, rfl, rfl, ?_, ?_, fun a ha => ?_, fun j hj => ?_, ?_, ?_, ?_, ⟨fun q hq => ?_, fun q hq => ?_⟩, by rw [kO 188 (by omega) (by omega), b0 _ (by omega)]; exact g188⟩
    · obtain ⟨⟨a1, a2, a3, a4, a5⟩, b, c', d', w, f1, f2, f3⟩ := gA
      have ne : ∀ j, j ≠ 5 → j < 128 ∨ 188 ≤ j → I4 (m + 1) j = I2 (m + 1) j := fun j h1 h2 => by rw [kO j h1 h2, b0 _ (by omega)]
      refine ⟨⟨by rw [ne _ (by omega) (by omega)]; exact a1, by rw [ne _ (by omega) (by omega)]; exact a2, by rw [ne _ (by omega) (by omega)]; exact a3, by rw [ne _ (by omega) (by omega)]; exact a4, by rw [ne _ (by omega) (by omega)]; exact a5⟩, fun k hk => ?_, fun k hk => by rw [ne _ (by omega) (by omega)]; exact c' k hk, fun k hk => by rw [ne _ (by omega) (by omega), ne _ (by omega) (by omega)]; exact d' k hk, w, f1, by rw [ne _ (by omega) (by omega)]; exact f2, f3⟩
      rw [ne _ (by omega) (by omega), ne _ (by omega) (by omega), ne _ (by omega) (by omega), ne _ (by omega) (by omega), ne _ (by omega) (by omega)]
      exact b k hk
    · have kk := kD (tq i) (by rw [hm]; exact w1)
      rw [hm] at kk
      obtain ⟨-, -, -, -, -, x1, x2, x3⟩ := w2
      exact kk.congr mn20_le rfl (fun _ _ _ => rfl) x1 x2 x3
    · have h1 : a ≠ m := fun q => ha (Or.inl q)
      have h2 : a ≠ m + 1 := fun q => ha (Or.inr (Or.inl q))
      rw [c0 a h1 h2]
      exact gs a ha
    · rw [cm, ← hI3]
      simp (disch := omega) only [vpT, nI_leI, nI_ltI, nI_eq, nleT, nleF, nltT, nltF, neqT, neqF, nI_add, pk_mul, subN, divN, nI_clamp, mI1, wrH, wrM1, wrM2, wrowH, wrowM, bI0, bI1, kIi, kVi, kRi, kLi, kIx, kVx, Option.some.injEq, exists_eq_left', true_and, and_true, true_implies, false_implies, implies_true, not_true_eq_false, not_false_eq_true, true_or, or_true, false_or, or_false, forall_eq, iteT, iteF, LM_ hM]
      exact g0 j hj
    · rw [cm, ← hI3]
      simp (disch := omega) only [vpT, nI_leI, nI_ltI, nI_eq, nleT, nleF, nltT, nltF, neqT, neqF, nI_add, pk_mul, subN, divN, nI_clamp, mI1, wrH, wrM1, wrM2, wrowH, wrowM, bI0, bI1, kIi, kVi, kRi, kLi, kIx, kVx, Option.some.injEq, exists_eq_left', true_and, and_true, true_implies, false_implies, implies_true, not_true_eq_false, not_false_eq_true, true_or, or_true, false_or, or_false, forall_eq, iteT, iteF, LM_ hM]
      rfl
    · rw [cm, ← hI3]
      simp (disch := omega) only [vpT, nI_leI, nI_ltI, nI_eq, nleT, nleF, nltT, nltF, neqT, neqF, nI_add, pk_mul, subN, divN, nI_clamp, mI1, wrH, wrM1, wrM2, wrowH, wrowM, bI0, bI1, kIi, kVi, kRi, kLi, kIx, kVx, Option.some.injEq, exists_eq_left', true_and, and_true, true_implies, false_implies, implies_true, not_true_eq_false, not_false_eq_true, true_or, or_true, false_or, or_false, forall_eq, iteT, iteF, LM_ hM]
      rfl
    · rw [cm, ← hI3]
      simp (disch := omega) only [vpT, nI_leI, nI_ltI, nI_eq, nleT, nleF, nltT, nltF, neqT, neqF, nI_add, pk_mul, subN, divN, nI_clamp, mI1, wrH, wrM1, wrM2, wrowH, wrowM, bI0, bI1, kIi, kVi, kRi, kLi, kIx, kVx, Option.some.injEq, exists_eq_left', true_and, and_true, true_implies, false_implies, implies_true, not_true_eq_false, not_false_eq_true, true_or, or_true, false_or, or_false, forall_eq, iteT, iteF, LM_ hM]
      rfl
    · rw [c0 _ (by omega) (by omega)]; exact gL.1 q hq
    · rw [c0 _ (by omega) (by omega)]; exact gL.2 q hq
  · rintro _ _ ⟨I2, l3, rfl, rfl, gA, gD, gs, g0, g25, g26, g27, gL, g188⟩
    refine t252_6 ?_
    by_cases hlt : D < n
    · simp (disch := omega) only [vpT, nI_leI, nI_ltI, nI_eq, nleT, nleF, nltT, nltF, neqT, neqF, nI_add, pk_mul, subN, divN, nI_clamp, mI1, wrH, wrM1, wrM2, wrowH, wrowM, bI0, bI1, kIi, kVi, kRi, kLi, kIx, kVx, Option.some.injEq, exists_eq_left', true_and, and_true, true_implies, false_implies, implies_true, not_true_eq_false, not_false_eq_true, true_or, or_true, false_or, or_false, forall_eq, iteT, iteF, LM_ hM, gA.1.1, gL.2 D hlt]
      rw [show (x < slt (sq 0) (ordN (sq 0)) D) = True from eq_true (hsp.2.1 (by omega))]
      simp (disch := omega) only [vpT, nI_leI, nI_ltI, nI_eq, nleT, nleF, nltT, nltF, neqT, neqF, nI_add, pk_mul, subN, divN, nI_clamp, mI1, wrH, wrM1, wrM2, wrowH, wrowM, bI0, bI1, kIi, kVi, kRi, kLi, kIx, kVx, Option.some.injEq, exists_eq_left', true_and, and_true, true_implies, false_implies, implies_true, not_true_eq_false, not_false_eq_true, true_or, or_true, false_or, or_false, forall_eq, iteT, iteF, LM_ hM]
      exact out I2 gA gD gs g0 g25 g26 g27 g188
    · simp (disch := omega) only [vpT, nI_leI, nI_ltI, nI_eq, nleT, nleF, nltT, nltF, neqT, neqF, nI_add, pk_mul, subN, divN, nI_clamp, mI1, wrH, wrM1, wrM2, wrowH, wrowM, bI0, bI1, kIi, kVi, kRi, kLi, kIx, kVx, Option.some.injEq, exists_eq_left', true_and, and_true, true_implies, false_implies, implies_true, not_true_eq_false, not_false_eq_true, true_or, or_true, false_or, or_false, forall_eq, iteT, iteF, LM_ hM, gA.1.1]
      exact out I2 gA gD gs g0 g25 g26 g27 g188
  · rw [show mn20 (dn + 0) = dn by have := hI.2.2.1.2; unfold mn20; omega]
    exact (Rel_AD.mp hR1).2
end MODEL6
