/-! The model: all orders are gone through. -/
abbrev mt (m : Nat) : Nat → Prop := fun a => a = m ∨ a = m + 6 ∨ a = m + 7 ∨ a = m + 8
section TRIES
variable {d : Nat} {L : hL} {J : Nat → Nat → Int64} {t : tl} {m n sn dn T sh f : Nat} {S : BS} {y : Int32} {X : Nat → hp → Prop} {hd : Bool}
--facts LM_ hM
theorem mp_waitAt1 {I : Nat → Nat → Int32} {F : Int32 → hp → Prop} {p c : Nat} {s : Int32} (hM : LM L m) (hR : Rel (I (m + 1)) S n sn dn) (hI : BI S n sn dn) (hp : p < 10) (hc : c < n) (e6 : I (m + 6) p = nI c) (e7 : I (m + 7) p = s) (k : F (s - bRe S c) (L, I, J, t)) : cal (d + 2) 209 [.ref m, .int (nI p)] (L, I, J, t) (kI F X) := by
  have hn := hI.1.2
  refine e209 (t209_0 ?_)
  simp (disch := omega) only [vpT, nI_leI, nI_ltI, nI_eq, nleT, nleF, nltT, nltF, neqT, neqF, nI_add, pk_mul, subN, divN, nI_clamp, mI1, wrH, wrM1, wrM2, wrowH, wrowM, bI0, bI1, kIi, kVi, kRi, kLi, kIx, kVx, Option.some.injEq, exists_eq_left', true_and, and_true, true_implies, false_implies, implies_true, not_true_eq_false, not_false_eq_true, true_or, or_true, false_or, or_false, forall_eq, iteT, iteF, LM_ hM, e6, e7]
  refine mp_ofCraft (w := 1) hM (by omega) (by decide) (t209_17 ?_)
  rw [(hR.2.1 _ hc).2.1]
  exact k
theorem mp_tries (hM : LM L m) (hI : BI S n sn dn) (hV : BV S n sn dn T) (hs3 : sh ≤ 3) (hf : f ≤ n) (hol : ∀ j, j < n → bOr S j = nI (ordN S j) ∧ ordN S j < n) : ∀ r k, k + r = n → ∀ (I : Nat → Nat → Int32) (o : Nat → Nat) (x : Int32) (G : hp → Prop), Rel (I (m + 1)) S n sn dn → I m 22 = bI hd → I m 23 = y → I m 24 = nI sh → ROW (I (m + 6)) o k → (∀ j, j < k → I (m + 7) j = slt S o j) → Pre S n f sh hd k o → MK x (usd o k) →
    (∀ I2, same I I2 (mt m) → (∀ j, j ≠ 20 → j ≠ 21 → I2 m j = I m j) → ROW (I2 (m + 6)) o k → (∀ j, j < k → I2 (m + 7) j = slt S o j) → (hd = true → Bst (Sub S n f sh true k o) (fun o => cst S o y n) n (I m 20) (I (m + 8)) (I2 m 20) (I2 (m + 8))) → I2 m 21 = I m 21 + nI (ct S n f sh hd r k o) → G (L, I2, J, t)) →
    cal (d + r + 5) 232 [.ref m, .int (nI k), .int (nI f), .int x, .int (cst S o y k)] (L, I, J, t) (kV G X) := by
  have hn := hI.1.2
  intro r
  induction r with
  | zero =>
    intro k hk I o x G hR e22 e23 e24 h6 h7 hpre hm K
    have hkn : k = n := by omega
    subst hkn
    refine e232 (t232_0 ?_)
    simp (disch := omega) only [vpT, nI_leI, nI_ltI, nI_eq, nleT, nleF, nltT, nltF, neqT, neqF, nI_add, pk_mul, subN, divN, nI_clamp, mI1, wrH, wrM1, wrM2, wrowH, wrowM, bI0, bI1, kIi, kVi, kRi, kLi, kIx, kVx, Option.some.injEq, exists_eq_left', true_and, and_true, true_implies, false_implies, implies_true, not_true_eq_false, not_false_eq_true, true_or, or_true, false_or, or_false, forall_eq, iteT, iteF, LM_ hM, hR.1.1, e22]
    have fin : ∀ I2, same I I2 (mt m) → (∀ j, j ≠ 20 → j ≠ 21 → I2 m j = I m j) → I2 (m + 6) = I (m + 6) → I2 (m + 7) = I (m + 7) → (hd = true → Bst (Sub S k f sh true k o) (fun o => cst S o y k) k (I m 20) (I (m + 8)) (I2 m 20) (I2 (m + 8))) → I2 m 21 = I m 21 + nI 1 → G (L, I2, J, t) := fun I2 a1 a2 a3 a4 a5 a6 => K I2 a1 a2 (by rw [a3]; exact h6) (by rw [a4]; exact h7) a5 a6
    have one : ∀ o', Sub S k f sh true k o o' → cst S o' y k = cst S o y k ∧ LX o o' k := fun o' q => ⟨cst_congr q.2, Or.inl fun j hj => (q.2 j hj).symm⟩
    refine ⟨fun h => ?_, fun h => ⟨fun h1 => ?_, fun h1 => ?_⟩⟩
    · refine fin _ (fun a ha => ?_) (fun j h1 h2 => ?_) ?_ ?_ (fun q => by rw [h] at q; cases q) ?_
      · have : a ≠ m := fun q => ha (Or.inl q)
        simp (disch := omega) only [vpT, nI_leI, nI_ltI, nI_eq, nleT, nleF, nltT, nltF, neqT, neqF, nI_add, pk_mul, subN, divN, nI_clamp, mI1, wrH, wrM1, wrM2, wrowH, wrowM, bI0, bI1, kIi, kVi, kRi, kLi, kIx, kVx, Option.some.injEq, exists_eq_left', true_and, and_true, true_implies, false_implies, implies_true, not_true_eq_false, not_false_eq_true, true_or, or_true, false_or, or_false, forall_eq, iteT, iteF, LM_ hM]
      · simp (disch := omega) only [vpT, nI_leI, nI_ltI, nI_eq, nleT, nleF, nltT, nltF, neqT, neqF, nI_add, pk_mul, subN, divN, nI_clamp, mI1, wrH, wrM1, wrM2, wrowH, wrowM, bI0, bI1, kIi, kVi, kRi, kLi, kIx, kVx, Option.some.injEq, exists_eq_left', true_and, and_true, true_implies, false_implies, implies_true, not_true_eq_false, not_false_eq_true, true_or, or_true, false_or, or_false, forall_eq, iteT, iteF, LM_ hM]
      · simp (disch := omega) only [vpT, nI_leI, nI_ltI, nI_eq, nleT, nleF, nltT, nltF, neqT, neqF, nI_add, pk_mul, subN, divN, nI_clamp, mI1, wrH, wrM1, wrM2, wrowH, wrowM, bI0, bI1, kIi, kVi, kRi, kLi, kIx, kVx, Option.some.injEq, exists_eq_left', true_and, and_true, true_implies, false_implies, implies_true, not_true_eq_false, not_false_eq_true, true_or, or_true, false_or, or_false, forall_eq, iteT, iteF, LM_ hM]
      · simp (disch := omega) only [vpT, nI_leI, nI_ltI, nI_eq, nleT, nleF, nltT, nltF, neqT, neqF, nI_add, pk_mul, subN, divN, nI_clamp, mI1, wrH, wrM1, wrM2, wrowH, wrowM, bI0, bI1, kIi, kVi, kRi, kLi, kIx, kVx, Option.some.injEq, exists_eq_left', true_and, and_true, true_implies, false_implies, implies_true, not_true_eq_false, not_false_eq_true, true_or, or_true, false_or, or_false, forall_eq, iteT, iteF, LM_ hM]
      · simp (disch := omega) only [vpT, nI_leI, nI_ltI, nI_eq, nleT, nleF, nltT, nltF, neqT, neqF, nI_add, pk_mul, subN, divN, nI_clamp, mI1, wrH, wrM1, wrM2, wrowH, wrowM, bI0, bI1, kIi, kVi, kRi, kLi, kIx, kVx, Option.some.injEq, exists_eq_left', true_and, and_true, true_implies, false_implies, implies_true, not_true_eq_false, not_false_eq_true, true_or, or_true, false_or, or_false, forall_eq, iteT, iteF, LM_ hM]
    · refine fin _ (fun a ha => ?_) (fun j h1 h2 => ?_) ?_ ?_ (fun _ => ?_) ?_
      · have : a ≠ m := fun q => ha (Or.inl q)
        simp (disch := omega) only [vpT, nI_leI, nI_ltI, nI_eq, nleT, nleF, nltT, nltF, neqT, neqF, nI_add, pk_mul, subN, divN, nI_clamp, mI1, wrH, wrM1, wrM2, wrowH, wrowM, bI0, bI1, kIi, kVi, kRi, kLi, kIx, kVx, Option.some.injEq, exists_eq_left', true_and, and_true, true_implies, false_implies, implies_true, not_true_eq_false, not_false_eq_true, true_or, or_true, false_or, or_false, forall_eq, iteT, iteF, LM_ hM]
      · simp (disch := omega) only [vpT, nI_leI, nI_ltI, nI_eq, nleT, nleF, nltT, nltF, neqT, neqF, nI_add, pk_mul, subN, divN, nI_clamp, mI1, wrH, wrM1, wrM2, wrowH, wrowM, bI0, bI1, kIi, kVi, kRi, kLi, kIx, kVx, Option.some.injEq, exists_eq_left', true_and, and_true, true_implies, false_implies, implies_true, not_true_eq_false, not_false_eq_true, true_or, or_true, false_or, or_false, forall_eq, iteT, iteF, LM_ hM]
      · simp (disch := omega) only [vpT, nI_leI, nI_ltI, nI_eq, nleT, nleF, nltT, nltF, neqT, neqF, nI_add, pk_mul, subN, divN, nI_clamp, mI1, wrH, wrM1, wrM2, wrowH, wrowM, bI0, bI1, kIi, kVi, kRi, kLi, kIx, kVx, Option.some.injEq, exists_eq_left', true_and, and_true, true_implies, false_implies, implies_true, not_true_eq_false, not_false_eq_true, true_or, or_true, false_or, or_false, forall_eq, iteT, iteF, LM_ hM]
      · simp (disch := omega) only [vpT, nI_leI, nI_ltI, nI_eq, nleT, nleF, nltT, nltF, neqT, neqF, nI_add, pk_mul, subN, divN, nI_clamp, mI1, wrH, wrM1, wrM2, wrowH, wrowM, bI0, bI1, kIi, kVi, kRi, kLi, kIx, kVx, Option.some.injEq, exists_eq_left', true_and, and_true, true_implies, false_implies, implies_true, not_true_eq_false, not_false_eq_true, true_or, or_true, false_or, or_false, forall_eq, iteT, iteF, LM_ hM]
      · simp (disch := omega) only [vpT, nI_leI, nI_ltI, nI_eq, nleT, nleF, nltT, nltF, neqT, neqF, nI_add, pk_mul, subN, divN, nI_clamp, mI1, wrH, wrM1, wrM2, wrowH, wrowM, bI0, bI1, kIi, kVi, kRi, kLi, kIx, kVx, Option.some.injEq, exists_eq_left', true_and, and_true, true_implies, false_implies, implies_true, not_true_eq_false, not_false_eq_true, true_or, or_true, false_or, or_false, forall_eq, iteT, iteF, LM_ hM]
        exact Or.inl ⟨rfl, fun _ _ => rfl, fun o' q => by show _ ≤ cst S o' y k; rw [(one o' q).1]; exact h1⟩
      · simp (disch := omega) only [vpT, nI_leI, nI_ltI, nI_eq, nleT, nleF, nltT, nltF, neqT, neqF, nI_add, pk_mul, subN, divN, nI_clamp, mI1, wrH, wrM1, wrM2, wrowH, wrowM, bI0, bI1, kIi, kVi, kRi, kLi, kIx, kVx, Option.some.injEq, exists_eq_left', true_and, and_true, true_implies, false_implies, implies_true, not_true_eq_false, not_false_eq_true, true_or, or_true, false_or, or_false, forall_eq, iteT, iteF, LM_ hM]
    · have hlt : cst S o y k < I m 20 := Int32.not_le.mp h1
      have ht := btf h
      refine lg (n := k) (fun i l h => ∃ I2 l6 l7, l = [some (.ref m), some (.int (nI k)), some (.int (nI f)), some (.int x), some (.int (cst S o y k)), some (.int (nI i)), l6, l7] ∧ h = (L, I2, J, t) ∧ same I I2 (mt m) ∧ (∀ j, j ≠ 20 → j ≠ 21 → I2 m j = I m j) ∧ I2 (m + 6) = I (m + 6) ∧ I2 (m + 7) = I (m + 7) ∧ I2 m 20 = cst S o y k ∧ I2 m 21 = I m 21 + nI 1 ∧ ∀ j, j < i → I2 (m + 8) j = nI (o j)) ?_ ?_ (Nat.zero_le _) _ _ ⟨_, _, _, rfl, rfl, fun a ha => ?_, fun j h1 h2 => ?_, ?_, ?_, ?_, ?_, fun j hj => by omega⟩
      · rintro i hi ih _ _ ⟨I2, l6, l7, rfl, rfl, hs, a2, a3, a4, a5, a6, a7⟩
        refine t232_45 ?_
        simp (disch := omega) only [vpT, nI_leI, nI_ltI, nI_eq, nleT, nleF, nltT, nltF, neqT, neqF, nI_add, pk_mul, subN, divN, nI_clamp, mI1, wrH, wrM1, wrM2, wrowH, wrowM, bI0, bI1, kIi, kVi, kRi, kLi, kIx, kVx, Option.some.injEq, exists_eq_left', true_and, and_true, true_implies, false_implies, implies_true, not_true_eq_false, not_false_eq_true, true_or, or_true, false_or, or_false, forall_eq, iteT, iteF, LM_ hM, a3, h6 i hi]
        refine ih _ _ ⟨_, _, _, rfl, rfl, fun a ha => ?_, fun j q1 q2 => ?_, ?_, ?_, ?_, ?_, fun j hj => ?_⟩
        · have : a ≠ m + 8 := fun q => ha (Or.inr (Or.inr (Or.inr q)))
          simp (disch := omega) only [vpT, nI_leI, nI_ltI, nI_eq, nleT, nleF, nltT, nltF, neqT, neqF, nI_add, pk_mul, subN, divN, nI_clamp, mI1, wrH, wrM1, wrM2, wrowH, wrowM, bI0, bI1, kIi, kVi, kRi, kLi, kIx, kVx, Option.some.injEq, exists_eq_left', true_and, and_true, true_implies, false_implies, implies_true, not_true_eq_false, not_false_eq_true, true_or, or_true, false_or, or_false, forall_eq, iteT, iteF, LM_ hM]
          exact hs a ha
        · simp (disch := omega) only [vpT, nI_leI, nI_ltI, nI_eq, nleT, nleF, nltT, nltF, neqT, neqF, nI_add, pk_mul, subN, divN, nI_clamp, mI1, wrH, wrM1, wrM2, wrowH, wrowM, bI0, bI1, kIi, kVi, kRi, kLi, kIx, kVx, Option.some.injEq, exists_eq_left', true_and, and_true, true_implies, false_implies, implies_true, not_true_eq_false, not_false_eq_true, true_or, or_true, false_or, or_false, forall_eq, iteT, iteF, LM_ hM]
          exact a2 j q1 q2
        · simp (disch := omega) only [vpT, nI_leI, nI_ltI, nI_eq, nleT, nleF, nltT, nltF, neqT, neqF, nI_add, pk_mul, subN, divN, nI_clamp, mI1, wrH, wrM1, wrM2, wrowH, wrowM, bI0, bI1, kIi, kVi, kRi, kLi, kIx, kVx, Option.some.injEq, exists_eq_left', true_and, and_true, true_implies, false_implies, implies_true, not_true_eq_false, not_false_eq_true, true_or, or_true, false_or, or_false, forall_eq, iteT, iteF, LM_ hM]
          exact a3
        · simp (disch := omega) only [vpT, nI_leI, nI_ltI, nI_eq, nleT, nleF, nltT, nltF, neqT, neqF, nI_add, pk_mul, subN, divN, nI_clamp, mI1, wrH, wrM1, wrM2, wrowH, wrowM, bI0, bI1, kIi, kVi, kRi, kLi, kIx, kVx, Option.some.injEq, exists_eq_left', true_and, and_true, true_implies, false_implies, implies_true, not_true_eq_false, not_false_eq_true, true_or, or_true, false_or, or_false, forall_eq, iteT, iteF, LM_ hM]
          exact a4
        · simp (disch := omega) only [vpT, nI_leI, nI_ltI, nI_eq, nleT, nleF, nltT, nltF, neqT, neqF, nI_add, pk_mul, subN, divN, nI_clamp, mI1, wrH, wrM1, wrM2, wrowH, wrowM, bI0, bI1, kIi, kVi, kRi, kLi, kIx, kVx, Option.some.injEq, exists_eq_left', true_and, and_true, true_implies, false_implies, implies_true, not_true_eq_false, not_false_eq_true, true_or, or_true, false_or, or_false, forall_eq, iteT, iteF, LM_ hM]
          exact a5
        · simp (disch := omega) only [vpT, nI_leI, nI_ltI, nI_eq, nleT, nleF, nltT, nltF, neqT, neqF, nI_add, pk_mul, subN, divN, nI_clamp, mI1, wrH, wrM1, wrM2, wrowH, wrowM, bI0, bI1, kIi, kVi, kRi, kLi, kIx, kVx, Option.some.injEq, exists_eq_left', true_and, and_true, true_implies, false_implies, implies_true, not_true_eq_false, not_false_eq_true, true_or, or_true, false_or, or_false, forall_eq, iteT, iteF, LM_ hM]
          exact a6
        · by_cases e : j = i
          · rw [wrH rfl e, e]
          · rw [wrM2 e]; exact a7 j (by omega)
      · rintro _ _ ⟨I2, l6, l7, rfl, rfl, hs, a2, a3, a4, a5, a6, a7⟩
        refine t232_45 ?_
        simp (disch := omega) only [vpT, nI_leI, nI_ltI, nI_eq, nleT, nleF, nltT, nltF, neqT, neqF, nI_add, pk_mul, subN, divN, nI_clamp, mI1, wrH, wrM1, wrM2, wrowH, wrowM, bI0, bI1, kIi, kVi, kRi, kLi, kIx, kVx, Option.some.injEq, exists_eq_left', true_and, and_true, true_implies, false_implies, implies_true, not_true_eq_false, not_false_eq_true, true_or, or_true, false_or, or_false, forall_eq, iteT, iteF, LM_ hM]
        refine fin I2 hs a2 a3 a4 (fun _ => Or.inr ⟨o, ⟨by rw [ht] at hpre; exact hpre.leaf, fun _ _ => rfl⟩, hlt, a5, a7, fun o' q => ?_⟩) a6
        refine ⟨?_, fun _ => (one o' q).2⟩
        show cst S o y k ≤ cst S o' y k
        rw [(one o' q).1]
        exact Int32.le_refl _
      · have : a ≠ m := fun q => ha (Or.inl q)
        simp (disch := omega) only [vpT, nI_leI, nI_ltI, nI_eq, nleT, nleF, nltT, nltF, neqT, neqF, nI_add, pk_mul, subN, divN, nI_clamp, mI1, wrH, wrM1, wrM2, wrowH, wrowM, bI0, bI1, kIi, kVi, kRi, kLi, kIx, kVx, Option.some.injEq, exists_eq_left', true_and, and_true, true_implies, false_implies, implies_true, not_true_eq_false, not_false_eq_true, true_or, or_true, false_or, or_false, forall_eq, iteT, iteF, LM_ hM]
      · simp (disch := omega) only [vpT, nI_leI, nI_ltI, nI_eq, nleT, nleF, nltT, nltF, neqT, neqF, nI_add, pk_mul, subN, divN, nI_clamp, mI1, wrH, wrM1, wrM2, wrowH, wrowM, bI0, bI1, kIi, kVi, kRi, kLi, kIx, kVx, Option.some.injEq, exists_eq_left', true_and, and_true, true_implies, false_implies, implies_true, not_true_eq_false, not_false_eq_true, true_or, or_true, false_or, or_false, forall_eq, iteT, iteF, LM_ hM]
      · simp (disch := omega) only [vpT, nI_leI, nI_ltI, nI_eq, nleT, nleF, nltT, nltF, neqT, neqF, nI_add, pk_mul, subN, divN, nI_clamp, mI1, wrH, wrM1, wrM2, wrowH, wrowM, bI0, bI1, kIi, kVi, kRi, kLi, kIx, kVx, Option.some.injEq, exists_eq_left', true_and, and_true, true_implies, false_implies, implies_true, not_true_eq_false, not_false_eq_true, true_or, or_true, false_or, or_false, forall_eq, iteT, iteF, LM_ hM]
      · simp (disch := omega) only [vpT, nI_leI, nI_ltI, nI_eq, nleT, nleF, nltT, nltF, neqT, neqF, nI_add, pk_mul, subN, divN, nI_clamp, mI1, wrH, wrM1, wrM2, wrowH, wrowM, bI0, bI1, kIi, kVi, kRi, kLi, kIx, kVx, Option.some.injEq, exists_eq_left', true_and, and_true, true_implies, false_implies, implies_true, not_true_eq_false, not_false_eq_true, true_or, or_true, false_or, or_false, forall_eq, iteT, iteF, LM_ hM]
      · simp (disch := omega) only [vpT, nI_leI, nI_ltI, nI_eq, nleT, nleF, nltT, nltF, neqT, neqF, nI_add, pk_mul, subN, divN, nI_clamp, mI1, wrH, wrM1, wrM2, wrowH, wrowM, bI0, bI1, kIi, kVi, kRi, kLi, kIx, kVx, Option.some.injEq, exists_eq_left', true_and, and_true, true_implies, false_implies, implies_true, not_true_eq_false, not_false_eq_true, true_or, or_true, false_or, or_false, forall_eq, iteT, iteF, LM_ hM]
      · simp (disch := omega) only [vpT, nI_leI, nI_ltI, nI_eq, nleT, nleF, nltT, nltF, neqT, neqF, nI_add, pk_mul, subN, divN, nI_clamp, mI1, wrH, wrM1, wrM2, wrowH, wrowM, bI0, bI1, kIi, kVi, kRi, kLi, kIx, kVx, Option.some.injEq, exists_eq_left', true_and, and_true, true_implies, false_implies, implies_true, not_true_eq_false, not_false_eq_true, true_or, or_true, false_or, or_false, forall_eq, iteT, iteF, LM_ hM]
  | succ r ih =>
    intro k hk I o x G hR e22 e23 e24 h6 h7 hpre hm K
    have hkn : k < n := by omega
    refine e232 (t232_0 ?_)
    simp (disch := omega) only [vpT, nI_leI, nI_ltI, nI_eq, nleT, nleF, nltT, nltF, neqT, neqF, nI_add, pk_mul, subN, divN, nI_clamp, mI1, wrH, wrM1, wrM2, wrowH, wrowM, bI0, bI1, kIi, kVi, kRi, kLi, kIx, kVx, Option.some.injEq, exists_eq_left', true_and, and_true, true_implies, false_implies, implies_true, not_true_eq_false, not_false_eq_true, true_or, or_true, false_or, or_false, forall_eq, iteT, iteF, LM_ hM, hR.1.1]
    refine lg (n := n) (fun c l h => ∃ I2 l6 l7, l = [some (.ref m), some (.int (nI k)), some (.int (nI f)), some (.int x), some (.int (cst S o y k)), some (.int (nI c)), l6, l7] ∧ h = (L, I2, J, t) ∧ same I I2 (mt m) ∧ (∀ j, j ≠ 20 → j ≠ 21 → I2 m j = I m j) ∧ ROW (I2 (m + 6)) o k ∧ (∀ j, j < k → I2 (m + 7) j = slt S o j) ∧ (hd = true → Bst (fun o' => Sub S n f sh true k o o' ∧ o' k < c) (fun o => cst S o y n) n (I m 20) (I (m + 8)) (I2 m 20) (I2 (m + 8))) ∧ I2 m 21 = I m 21 + nI (sumN (fun c => if okc S n f sh hd k o c then ct S n f sh hd r (k + 1) (upk o k c) else 0) c)) ?_ ?_ (Nat.zero_le _) _ _ ⟨I, _, _, rfl, rfl, same.rf, fun _ _ _ => rfl, h6, h7, fun _ => Bst.none, by show _ = _ + nI 0; rw [show nI 0 = (0 : Int32) from rfl, Int32.add_zero]⟩
    · rintro c hc ihc _ _ ⟨I2, l6, l7, rfl, rfl, hs, a2, a6, a7, a8, a9⟩
      have e1 : I2 (m + 1) = I (m + 1) := hs _ (by omega)
      have hR2 : Rel (I2 (m + 1)) S n sn dn := by rw [e1]; exact hR
      have es : sumN (fun c => if okc S n f sh hd k o c then ct S n f sh hd r (k + 1) (upk o k c) else 0) (c + 1) = sumN (fun c => if okc S n f sh hd k o c then ct S n f sh hd r (k + 1) (upk o k c) else 0) c + (if okc S n f sh hd k o c then ct S n f sh hd r (k + 1) (upk o k c) else 0) := rfl
      generalize sumN (fun c => if okc S n f sh hd k o c then ct S n f sh hd r (k + 1) (upk o k c) else 0) c = s at es a9
      have skip : okc S n f sh hd k o c = false → ∀ I3 l6 l7, same I2 I3 (mt m) → I3 m = I2 m → ROW (I3 (m + 6)) o k → (∀ j, j < k → I3 (m + 7) j = slt S o j) → I3 (m + 8) = I2 (m + 8) → (hd = true → ∀ o', Sub S n f sh true k o o' → o' k ≠ c) → Wp (cal (d + (r + 1) + 4)) kc_232 [] (kV G X) (252, [some (.ref m), some (.int (nI k)), some (.int (nI f)), some (.int x), some (.int (cst S o y k)), some (.int (nI c)), l6, l7], [], (L, I3, J, t)) := by
        intro h0 I3 l6 l7 b1 b2 b3 b4 b5 b6
        refine t232_252 ?_
        simp (disch := omega) only [vpT, nI_leI, nI_ltI, nI_eq, nleT, nleF, nltT, nltF, neqT, neqF, nI_add, pk_mul, subN, divN, nI_clamp, mI1, wrH, wrM1, wrM2, wrowH, wrowM, bI0, bI1, kIi, kVi, kRi, kLi, kIx, kVx, Option.some.injEq, exists_eq_left', true_and, and_true, true_implies, false_implies, implies_true, not_true_eq_false, not_false_eq_true, true_or, or_true, false_or, or_false, forall_eq, iteT, iteF, LM_ hM]
        refine ihc _ _ ⟨I3, _, _, rfl, rfl, hs.tr b1, fun j q1 q2 => by rw [b2]; exact a2 j q1 q2, b3, b4, fun q => ?_, ?_⟩
        · rw [b2, b5]
          exact (a8 q).skip (b6 q)
        · rw [b2, a9, es, h0]
          rfl
      have go : usd o k c = false → (if k < f then c = ordN S k else near S n sh c k = true) → ∀ l6 l7, cal (d + (r + 1) + 4) 198 [.ref m, .int (nI k)] (L, wr I2 (m + 6) k (nI c), J, t) (kI (fun r' h2 => Wp (cal (d + (r + 1) + 4)) kc_232 [] (kV G X) (153, [some (.ref m), some (.int (nI k)), some (.int (nI f)), some (.int x), some (.int (cst S o y k)), some (.int (nI c)), l6, l7], [.int r', .int (nI k), .ref (m + 7)], h2)) (fun e h2 => kV G X (.inr e) h2)) := by
        intro huc hnr l6 l7
        have row1 : ∀ j, j ≤ k → wr I2 (m + 6) k (nI c) (m + 6) j = nI (upk o k c j) ∧ upk o k c j < n := fun j hj => by
          by_cases e : j = k
          · rw [wrH rfl e, e, upk_e]; exact ⟨rfl, hc⟩
          · rw [wrM2 e, upk_n e]; exact ⟨a6 j (by omega), hpre.1 j (by omega)⟩
        refine mp_slotAt (S := S) (n := n) (sn := sn) (dn := dn) (o := upk o k c) hM (by rw [wrM1 (by omega)]; exact hR2) hI hkn row1 (fun j hj => by rw [wrM1 (by omega), a7 j hj]; exact slt_congr fun i hi => (upk_n (by omega)).symm) (t232_153 ?_)
        have hok : okc S n f sh hd k o c = (!hd || decide (slt S (upk o k c) k ≤ bLa S c)) := by
          unfold okc
          rw [huc]
          by_cases hkf : k < f
          · rw [if_pos hkf] at hnr ⊢; rw [decide_eq_true hnr]; rfl
          · rw [if_neg hkf] at hnr ⊢; rw [hnr]; rfl
        have e22' : I2 m 22 = bI hd := (a2 22 (by decide) (by decide)).trans e22
        generalize hsl : slt S (upk o k c) k = sl at hok
        generalize hI3 : wr (wr I2 (m + 6) k (nI c)) (m + 7) k sl = I3
        have b1 : same I2 I3 (mt m) := fun a ha => by
          have : a ≠ m + 6 ∧ a ≠ m + 7 := ⟨fun q => ha (Or.inr (Or.inl q)), fun q => ha (Or.inr (Or.inr (Or.inl q)))⟩
          rw [← hI3]
          simp (disch := omega) only [vpT, nI_leI, nI_ltI, nI_eq, nleT, nleF, nltT, nltF, neqT, neqF, nI_add, pk_mul, subN, divN, nI_clamp, mI1, wrH, wrM1, wrM2, wrowH, wrowM, bI0, bI1, kIi, kVi, kRi, kLi, kIx, kVx, Option.some.injEq, exists_eq_left', true_and, and_true, true_implies, false_implies, implies_true, not_true_eq_false, not_false_eq_true, true_or, or_true, false_or, or_false, forall_eq, iteT, iteF, LM_ hM]
        have b2 : I3 m = I2 m := by rw [← hI3]; simp (disch := omega) only [vpT, nI_leI, nI_ltI, nI_eq, nleT, nleF, nltT, nltF, neqT, neqF, nI_add, pk_mul, subN, divN, nI_clamp, mI1, wrH, wrM1, wrM2, wrowH, wrowM, bI0, bI1, kIi, kVi, kRi, kLi, kIx, kVx, Option.some.injEq, exists_eq_left', true_and, and_true, true_implies, false_implies, implies_true, not_true_eq_false, not_false_eq_true, true_or, or_true, false_or, or_false, forall_eq, iteT, iteF, LM_ hM]
        have b6 : ROW (I3 (m + 6)) (upk o k c) (k + 1) := fun j hj => by rw [← hI3, wrM1 (by omega)]; exact (row1 j (by omega)).1
        have b7 : ∀ j, j < k + 1 → I3 (m + 7) j = slt S (upk o k c) j := fun j hj => by
          rw [← hI3]
          by_cases e : j = k
          · rw [wrH rfl e, e, hsl]
          · rw [wrM2 e, wrM1 (by omega), a7 j (by omega)]; exact slt_congr fun i hi => (upk_n (by omega)).symm
        have b8 : I3 (m + 8) = I2 (m + 8) := by rw [← hI3]; simp (disch := omega) only [vpT, nI_leI, nI_ltI, nI_eq, nleT, nleF, nltT, nltF, neqT, neqF, nI_add, pk_mul, subN, divN, nI_clamp, mI1, wrH, wrM1, wrM2, wrowH, wrowM, bI0, bI1, kIi, kVi, kRi, kLi, kIx, kVx, Option.some.injEq, exists_eq_left', true_and, and_true, true_implies, false_implies, implies_true, not_true_eq_false, not_false_eq_true, true_or, or_true, false_or, or_false, forall_eq, iteT, iteF, LM_ hM]
        have c6 : ROW (I3 (m + 6)) o k := fun j hj => by rw [b6 j (by omega), upk_n (by omega)]
        have c7 : ∀ j, j < k → I3 (m + 7) j = slt S o j := fun j hj => by rw [b7 j (by omega)]; exact slt_congr fun i hi => upk_n (by omega)
        have bR : Rel (I3 (m + 1)) S n sn dn := by rw [b1 _ (by omega)]; exact hR2
        have e3 : I3 (m + 6) k = nI c := by rw [b6 k (by omega), upk_e]
        have e4 : I3 (m + 7) k = sl := by rw [b7 k (by omega), hsl]
        have ec : cst S (upk o k c) y (k + 1) = cw S y (cst S o y k) c sl := by
          show cw S y (cst S (upk o k c) y k) (upk o k c k) (slt S (upk o k c) k) = _
          rw [upk_e, hsl, cst_congr (o := upk o k c) (o' := o) (fun j hj => upk_n (by omega))]
        have e23' : I3 m 23 = y := by rw [b2]; exact (a2 23 (by decide) (by decide)).trans e23
        have rest : okc S n f sh hd k o c = true → ∀ l6 l7, cal (d + (r + 1) + 4) 209 [.ref m, .int (nI k)] (L, I3, J, t) (kI (fun r' h2 => Wp (cal (d + (r + 1) + 4)) kc_232 [] (kV G X) (185, [some (.ref m), some (.int (nI k)), some (.int (nI f)), some (.int x), some (.int (cst S o y k)), some (.int (nI c)), l6, l7], [.int r'], h2)) (fun e h2 => kV G X (.inr e) h2)) := by
          intro ok l6 l7
          obtain ⟨q1, q2, q3⟩ := okc_iff.mp ok
          refine mp_waitAt1 hM bR hI (by omega) hc e3 e4 (t232_185 ?_)
          have deeper : ∀ v, v = cst S (upk o k c) y (k + 1) → ∀ l6 l7, cal (d + (r + 1) + 4) 232 [.ref m, .int (nI (k + 1)), .int (nI f), .int (x ||| (nI 1 <<< (nI c &&& 31))), .int v] (L, I3, J, t) (kV (fun h2 => Wp (cal (d + (r + 1) + 4)) kc_232 [] (kV G X) (252, [some (.ref m), some (.int (nI k)), some (.int (nI f)), some (.int x), some (.int (cst S o y k)), some (.int (nI c)), l6, l7], [], h2)) (fun e h2 => kV G X (.inr e) h2)) := by
            intro v hv l6 l7
            rw [hv]
            refine ih (k + 1) (by omega) I3 (upk o k c) _ _ bR (by rw [b2]; exact e22') e23' (by rw [b2]; exact (a2 24 (by decide) (by decide)).trans e24) b6 b7 (hpre.up hc q1 q2 q3) ((MK_or hm (by omega)).congr' fun e _ => by rw [usd_succ, upk_e, usd_congr (o' := o) (fun j hj => upk_n (by omega))]) fun I4 g1 g2 g6 g7 g8 g9 => ?_
            refine t232_252 ?_
            simp (disch := omega) only [vpT, nI_leI, nI_ltI, nI_eq, nleT, nleF, nltT, nltF, neqT, neqF, nI_add, pk_mul, subN, divN, nI_clamp, mI1, wrH, wrM1, wrM2, wrowH, wrowM, bI0, bI1, kIi, kVi, kRi, kLi, kIx, kVx, Option.some.injEq, exists_eq_left', true_and, and_true, true_implies, false_implies, implies_true, not_true_eq_false, not_false_eq_true, true_or, or_true, false_or, or_false, forall_eq, iteT, iteF, LM_ hM]
            refine ihc _ _ ⟨I4, _, _, rfl, rfl, (hs.tr b1).tr g1, fun j w1 w2 => by rw [g2 j w1 w2, b2]; exact a2 j w1 w2, fun j hj => by rw [g6 j (by omega), upk_n (by omega)], fun j hj => by rw [g7 j (by omega)]; exact slt_congr fun i hi => upk_n (by omega), fun q => ?_, ?_⟩
            · have := g8 q
              rw [b2, b8] at this
              exact (a8 q).child hkn this
            · rw [g9, b2, a9, es, if_pos ok, Int32.add_assoc, nI_add]
          rw [cw_m] at ec
          simp (disch := omega) only [LM_ hM, e23', e4, vpT, nI_clamp, nI_add, Option.some.injEq, exists_eq_left', true_and]
          refine ⟨fun h => ⟨fun h1 => deeper _ ?_ _ _, fun h1 => deeper _ ?_ _ _⟩, fun h => ?_⟩
          · rw [ec, if_neg h, if_neg h1]; rfl
          · rw [ec, if_neg h, if_pos h1]; rfl
          · refine mp_ofCraft (w := 3) hM (by omega) (by decide) (t232_205 ?_)
            rw [(bR.2.1 _ hc).2.2.2.1]
            simp (disch := omega) only [vpT, nI_leI, nI_ltI, nI_eq, nleT, nleF, nltT, nltF, neqT, neqF, nI_add, pk_mul, subN, divN, nI_clamp, mI1, wrH, wrM1, wrM2, wrowH, wrowM, bI0, bI1, kIi, kVi, kRi, kLi, kIx, kVx, Option.some.injEq, exists_eq_left', true_and, and_true, true_implies, false_implies, implies_true, not_true_eq_false, not_false_eq_true, true_or, or_true, false_or, or_false, forall_eq, iteT, iteF, LM_ hM]
            exact deeper _ (by rw [ec, if_pos h]) _ _
        have e3L : I3 m 22 = bI hd := by rw [b2]; exact e22'
        simp (disch := omega) only [LM_ hM, vpT, nI_clamp, hI3, forall_eq, true_and, Option.some.injEq, exists_eq_left', e3L, e4, bI0]
        refine ⟨fun h => rest (by rw [hok, h]; rfl) _ _, fun h => ?_⟩
        have ht := btf h
        refine mp_ofCraft (w := 2) hM (by omega) (by decide) (t232_174 ?_)
        rw [(bR.2.1 _ hc).2.2.1]
        simp (disch := omega) only [vpT, nI_leI, nI_ltI, nI_eq, nleT, nleF, nltT, nltF, neqT, neqF, nI_add, pk_mul, subN, divN, nI_clamp, mI1, wrH, wrM1, wrM2, wrowH, wrowM, bI0, bI1, kIi, kVi, kRi, kLi, kIx, kVx, Option.some.injEq, exists_eq_left', true_and, and_true, true_implies, false_implies, implies_true, not_true_eq_false, not_false_eq_true, true_or, or_true, false_or, or_false, forall_eq, iteT, iteF, LM_ hM]
        refine ⟨fun h1 => rest (by rw [hok, decide_eq_true h1, Bool.or_true]) _ _, fun h1 => skip (by rw [hok, decide_eq_false h1, ht]; rfl) I3 _ _ b1 b2 c6 c7 b8 fun _ o' q => q.lateSlot hkn (by rw [hsl]; exact h1)⟩
      refine t232_75 ?_
      have e24' : I2 m 24 = nI sh := (a2 24 (by decide) (by decide)).trans e24
      have e46 : I2 (m + 1) (46 + k) = nI (ordN S k) := (hR2.2.1 k hkn).2.2.2.2.trans (hol k hkn).1
      have hok46 := (hol k hkn).2
      have g01 : ((x >>> (nI c &&& 31)) &&& nI 1 = nI 1) = (usd o k c = true) := by
        rw [MK_get hm (by omega)]
        cases usd o k c
        · exact propext ⟨fun h => absurd h nI01, fun h => by cases h⟩
        · exact propext ⟨fun _ => rfl, fun _ => rfl⟩
      rw [g01]
      simp (disch := omega) only [vpT, nI_leI, nI_ltI, nI_eq, nleT, nleF, nltT, nltF, neqT, neqF, nI_add, pk_mul, subN, divN, nI_clamp, mI1, wrH, wrM1, wrM2, wrowH, wrowM, bI0, bI1, kIi, kVi, kRi, kLi, kIx, kVx, Option.some.injEq, exists_eq_left', true_and, and_true, true_implies, false_implies, implies_true, not_true_eq_false, not_false_eq_true, true_or, or_true, false_or, or_false, forall_eq, iteT, iteF, LM_ hM, hR2.1.1, e24', e46]
      refine ⟨fun h => skip (by unfold okc; rw [h]; rfl) I2 _ _ same.rf rfl a6 a7 rfl fun _ o' q => q.used hkn h, fun h => ?_⟩
      have huc : usd o k c = false := by simpa using h
      refine ⟨fun h1 => ?_, fun h1 => ⟨fun h2 => ?_, fun h2 => ?_⟩⟩
      · refine mp_isNear hM hR2 hI hV hc (by omega) hs3 (t232_129 ?_)
        simp (disch := omega) only [vpT, nI_leI, nI_ltI, nI_eq, nleT, nleF, nltT, nltF, neqT, neqF, nI_add, pk_mul, subN, divN, nI_clamp, mI1, wrH, wrM1, wrM2, wrowH, wrowM, bI0, bI1, kIi, kVi, kRi, kLi, kIx, kVx, Option.some.injEq, exists_eq_left', true_and, and_true, true_implies, false_implies, implies_true, not_true_eq_false, not_false_eq_true, true_or, or_true, false_or, or_false, forall_eq, iteT, iteF, LM_ hM]
        refine ⟨fun h2 => go huc (by rw [if_neg (by omega)]; exact btf h2) _ _, fun h2 => skip ?_ I2 _ _ same.rf rfl a6 a7 rfl fun _ o' q => q.near hkn (by omega) h2⟩
        unfold okc
        rw [if_neg (by omega), h2, Bool.false_and, Bool.and_false]
      · exact go huc (by rw [if_pos (by omega)]; exact h2) _ _
      · refine skip ?_ I2 _ _ same.rf rfl a6 a7 rfl fun _ o' q w => ?_
        · unfold okc
          rw [if_pos (by omega), decide_eq_false h2, Bool.false_and, Bool.and_false]
        · have := q.1.2.2.1 k hkn
          rw [if_pos (by omega), w] at this
          exact h2 this
    · rintro _ _ ⟨I2, l6, l7, rfl, rfl, hs, a2, a6, a7, a8, a9⟩
      have e1 : I2 (m + 1) = I (m + 1) := hs _ (by omega)
      refine t232_75 ?_
      simp (disch := omega) only [vpT, nI_leI, nI_ltI, nI_eq, nleT, nleF, nltT, nltF, neqT, neqF, nI_add, pk_mul, subN, divN, nI_clamp, mI1, wrH, wrM1, wrM2, wrowH, wrowM, bI0, bI1, kIi, kVi, kRi, kLi, kIx, kVx, Option.some.injEq, exists_eq_left', true_and, and_true, true_implies, false_implies, implies_true, not_true_eq_false, not_false_eq_true, true_or, or_true, false_or, or_false, forall_eq, iteT, iteF, LM_ hM, e1, hR.1.1]
      exact K I2 hs a2 a6 a7 (fun q => (a8 q).full hkn) a9
end TRIES
