/-! The model: finds, slack, orders that are tried. -/
/-- what both searches find is the same -/
theorem find_same {S : BS} {n sn dn T f sh : Nat} {y v M1 : Int32} {fr g0 g1 : rw1} (hI : BI S n sn dn) (hV : BV S n sn dn T) (h : Fnd S n f sh y v fr) (hB : Bst (Leaf S n f sh true) (fun o => cst S o y n) n (nI 1000000000) g0 M1 g1) : (v = -1 ∧ M1 = nI 1000000000 ∧ ∀ o, ¬ Leaf S n f sh true o) ∨ (v = M1 ∧ ¬ M1 = nI 1000000000 ∧ ¬ v = -1 ∧ ∃ o, Leaf S n f sh true o ∧ ROW fr o n ∧ ROW g1 o n) := by
  obtain ⟨f0, L1, h1, h2⟩ := h
  have hn := hI.1.2
  have up : ∀ o, Leaf S n f sh true o → 0 ≤ (cst S o y n).toInt ∧ (cst S o y n).toInt ≤ 201000000 := fun o q => by
    have := cst_up hI hV (y := y) (k := n) (o := o) (by omega) q.1
    omega
  have b1 : (nI 2147483647).toInt = 2147483647 := nI_toInt (by omega)
  have b2 : (nI 1000000000).toInt = 1000000000 := nI_toInt (by omega)
  rcases h1.same hB (fun o q => by have := up o q; rw [Int32.lt_iff_toInt_lt, b1]; omega) (fun o q => by have := up o q; rw [Int32.lt_iff_toInt_lt, b2]; omega) with ⟨a1, a2, a3⟩ | ⟨a1, a2, a3, o, a4, a5, a6, a7⟩
  · rw [a1, if_pos rfl] at h2
    exact Or.inl ⟨h2, a2, a3⟩
  · have hl := up o a4
    rw [if_neg (fun q => by rw [q, Int32.lt_iff_toInt_lt] at a2; omega)] at h2
    refine Or.inr ⟨h2.trans a1, fun q => by rw [q, Int32.lt_iff_toInt_lt] at a3; omega, fun q => ?_, o, a4, a5, a6⟩
    have a7' : L1 = cst S o y n := a7
    rw [← a7', ← h2, q] at hl
    exact absurd hl.1 (by decide)
section MODEL3
variable {d : Nat} {L : hL} {I : Nat → Nat → Int32} {J : Nat → Nat → Int64} {t : tl} {m n sn dn T sh : Nat} {S : BS} {o : Nat → Nat} {y : Int32} {F : Int32 → hp → Prop} {G : hp → Prop} {X : Nat → hp → Prop} {hd : Bool}
--facts LM_ hM
theorem mp_finds (hM : LM L m) (hR : Rel (I (m + 1)) S n sn dn) (hI : BI S n sn dn) (hV : BV S n sn dn T) (hs3 : sh ≤ 3) (hol : ∀ j, j < n → bOr S j = nI (ordN S j) ∧ ordN S j < n) (k : ∀ I2, same I I2 (mt m) → (∀ j, j < 20 ∨ 24 < j → I2 m j = I m j) → (hd = true → ∃ f0, Bst (Leaf S n (frz S n) sh true) (fun o => cst S o y n) n (nI 1000000000) f0 (I2 m 20) (I2 (m + 8))) → I2 m 21 = nI (ct S n (frz S n) sh hd n 0 (ordN S)) → G (L, I2, J, t)) : cal (d + 16) 231 [.ref m, .int y, .int (nI sh), .int (bI hd)] (L, I, J, t) (kV G X) := by
  have hn := hI.1.2
  refine e231 (t231_0 ?_)
  simp (disch := omega) only [vpT, nI_leI, nI_ltI, nI_eq, nleT, nleF, nltT, nltF, neqT, neqF, nI_add, pk_mul, subN, divN, nI_clamp, mI1, wrH, wrM1, wrM2, wrowH, wrowM, bI0, bI1, kIi, kVi, kRi, kLi, kIx, kVx, Option.some.injEq, exists_eq_left', true_and, and_true, true_implies, false_implies, implies_true, not_true_eq_false, not_false_eq_true, true_or, or_true, false_or, or_false, forall_eq, iteT, iteF, LM_ hM]
  refine mp_frozenNow hM hR hI hol fun I1 hs1 hL1 => t231_4 ?_
  simp only [LM_ hM, true_and]
  refine ⟨bI_01 hd, ?_⟩
  generalize hI2 : wr (wr (wr (wr (wr I1 m 20 (nI 1000000000)) m 21 (nI 0)) m 22 (bI hd)) m 23 y) m 24 (nI sh) = I2
  have b1 : ∀ a, a ≠ m → I2 a = I1 a := fun a ha => by rw [← hI2]; simp (disch := omega) only [vpT, nI_leI, nI_ltI, nI_eq, nleT, nleF, nltT, nltF, neqT, neqF, nI_add, pk_mul, subN, divN, nI_clamp, mI1, wrH, wrM1, wrM2, wrowH, wrowM, bI0, bI1, kIi, kVi, kRi, kLi, kIx, kVx, Option.some.injEq, exists_eq_left', true_and, and_true, true_implies, false_implies, implies_true, not_true_eq_false, not_false_eq_true, true_or, or_true, false_or, or_false, forall_eq, iteT, iteF, LM_ hM]
  have b2 : ∀ j, j < 20 ∨ 24 < j → I2 m j = I1 m j := fun j hj => by rw [← hI2]; simp (disch := omega) only [vpT, nI_leI, nI_ltI, nI_eq, nleT, nleF, nltT, nltF, neqT, neqF, nI_add, pk_mul, subN, divN, nI_clamp, mI1, wrH, wrM1, wrM2, wrowH, wrowM, bI0, bI1, kIi, kVi, kRi, kLi, kIx, kVx, Option.some.injEq, exists_eq_left', true_and, and_true, true_implies, false_implies, implies_true, not_true_eq_false, not_false_eq_true, true_or, or_true, false_or, or_false, forall_eq, iteT, iteF, LM_ hM]
  have b20 : I2 m 20 = nI 1000000000 := by rw [← hI2]; simp (disch := omega) only [vpT, nI_leI, nI_ltI, nI_eq, nleT, nleF, nltT, nltF, neqT, neqF, nI_add, pk_mul, subN, divN, nI_clamp, mI1, wrH, wrM1, wrM2, wrowH, wrowM, bI0, bI1, kIi, kVi, kRi, kLi, kIx, kVx, Option.some.injEq, exists_eq_left', true_and, and_true, true_implies, false_implies, implies_true, not_true_eq_false, not_false_eq_true, true_or, or_true, false_or, or_false, forall_eq, iteT, iteF, LM_ hM]
  have b21 : I2 m 21 = nI 0 := by rw [← hI2]; simp (disch := omega) only [vpT, nI_leI, nI_ltI, nI_eq, nleT, nleF, nltT, nltF, neqT, neqF, nI_add, pk_mul, subN, divN, nI_clamp, mI1, wrH, wrM1, wrM2, wrowH, wrowM, bI0, bI1, kIi, kVi, kRi, kLi, kIx, kVx, Option.some.injEq, exists_eq_left', true_and, and_true, true_implies, false_implies, implies_true, not_true_eq_false, not_false_eq_true, true_or, or_true, false_or, or_false, forall_eq, iteT, iteF, LM_ hM]
  have b22 : I2 m 22 = bI hd := by rw [← hI2]; simp (disch := omega) only [vpT, nI_leI, nI_ltI, nI_eq, nleT, nleF, nltT, nltF, neqT, neqF, nI_add, pk_mul, subN, divN, nI_clamp, mI1, wrH, wrM1, wrM2, wrowH, wrowM, bI0, bI1, kIi, kVi, kRi, kLi, kIx, kVx, Option.some.injEq, exists_eq_left', true_and, and_true, true_implies, false_implies, implies_true, not_true_eq_false, not_false_eq_true, true_or, or_true, false_or, or_false, forall_eq, iteT, iteF, LM_ hM]
  have b23 : I2 m 23 = y := by rw [← hI2]; simp (disch := omega) only [vpT, nI_leI, nI_ltI, nI_eq, nleT, nleF, nltT, nltF, neqT, neqF, nI_add, pk_mul, subN, divN, nI_clamp, mI1, wrH, wrM1, wrM2, wrowH, wrowM, bI0, bI1, kIi, kVi, kRi, kLi, kIx, kVx, Option.some.injEq, exists_eq_left', true_and, and_true, true_implies, false_implies, implies_true, not_true_eq_false, not_false_eq_true, true_or, or_true, false_or, or_false, forall_eq, iteT, iteF, LM_ hM]
  have b24 : I2 m 24 = nI sh := by rw [← hI2]; simp (disch := omega) only [vpT, nI_leI, nI_ltI, nI_eq, nleT, nleF, nltT, nltF, neqT, neqF, nI_add, pk_mul, subN, divN, nI_clamp, mI1, wrH, wrM1, wrM2, wrowH, wrowM, bI0, bI1, kIi, kVi, kRi, kLi, kIx, kVx, Option.some.injEq, exists_eq_left', true_and, and_true, true_implies, false_implies, implies_true, not_true_eq_false, not_false_eq_true, true_or, or_true, false_or, or_false, forall_eq, iteT, iteF, LM_ hM]
  have hR2 : Rel (I2 (m + 1)) S n sn dn := by rw [b1 _ (by omega), hs1 _ (by omega)]; exact hR
  refine mp_tries (d := d + 10 - n) (f := frz S n) (y := y) (hd := hd) hM hI hV hs3 frz_le hol n 0 (by omega) I2 (ordN S) (nI 0) _ hR2 b22 b23 b24 (fun j hj => by omega) (fun j hj => by omega) ⟨fun j hj => by omega, fun i j hi => by omega, fun j hj => by omega, fun _ j hj => by omega⟩ MK_0 (fun I3 g1 g2 g6 g7 g8 g9 => ?_) |> (fun q => by
    rw [show d + 10 - n + n + 5 = d + 15 by omega] at q
    exact q)
  refine t231_42 ?_
  simp (disch := omega) only [vpT, nI_leI, nI_ltI, nI_eq, nleT, nleF, nltT, nltF, neqT, neqF, nI_add, pk_mul, subN, divN, nI_clamp, mI1, wrH, wrM1, wrM2, wrowH, wrowM, bI0, bI1, kIi, kVi, kRi, kLi, kIx, kVx, Option.some.injEq, exists_eq_left', true_and, and_true, true_implies, false_implies, implies_true, not_true_eq_false, not_false_eq_true, true_or, or_true, false_or, or_false, forall_eq, iteT, iteF, LM_ hM]
  refine k I3 (fun a ha => ?_) (fun j hj => ?_) (fun q => ⟨I2 (m + 8), ?_⟩) ?_
  · rw [g1 a ha, b1 a (fun q => ha (Or.inl q))]
    exact hs1 a (fun q => ha (q.elim (fun w => Or.inr (Or.inl w)) (fun w => Or.inr (Or.inr (Or.inl w)))))
  · rw [g2 j (by omega) (by omega), b2 j hj, hs1 _ (by omega)]
  · have := g8 q
    rw [b20] at this
    exact this.iff fun o' => ⟨fun w => w.1, fun w => ⟨w, fun j hj => by omega⟩⟩
  · rw [g9, b21, nI_add, Nat.zero_add]
theorem mp_told (hM : LM L m) (k : F (if I m 20 = nI 1000000000 then -1 else I m 20) (L, I, J, t)) : cal (d + 1) 233 [.ref m] (L, I, J, t) (kI F X) := by
  refine e233 (t233_0 ?_)
  simp only [LM_ hM, true_and, kIi]
  refine ⟨fun h => ?_, fun h => ?_⟩
  · rw [if_neg h] at k; exact k
  · rw [if_pos h] at k; exact k
theorem Rel_setRe {r : rw1} {c : Nat} {x : Int32} (h : Rel r S n sn dn) (hn : n ≤ 10) (hs : sn ≤ 4) (hc : c < n) (r' : rw1) (e : ∀ j, j ≠ 6 + 4 * c + 1 → r' j = r j) (e1 : r' (6 + 4 * c + 1) = x) : Rel r' (setRe S c x) n sn dn := by
  obtain ⟨⟨h1, h2, h3, h4, h5, h6⟩, a, b, c', d', e'⟩ := h
  refine ⟨⟨by rw [e _ (by omega)]; exact h1, by rw [e _ (by omega)]; exact h2, by rw [e _ (by omega)]; exact h3, by rw [e _ (by omega)]; exact h4, by rw [e _ (by omega)]; exact h5, by rw [e _ (by omega)]; exact h6⟩, fun k hk => ?_, fun k hk => by rw [e _ (by omega)]; exact b k hk, fun k hk => ?_, fun i hi => ?_, ?_⟩
  · obtain ⟨q1, q2, q3, q4, q5⟩ := a k hk
    refine ⟨by rw [e _ (by omega)]; exact q1, ?_, by rw [e _ (by omega)]; exact q3, by rw [e _ (by omega)]; exact q4, by rw [e _ (by omega)]; exact q5⟩
    show _ = (if k = c then x else bRe S k)
    by_cases w : k = c
    · rw [if_pos w, w, e1]
    · rw [if_neg w, e _ (by omega)]; exact q2
  · obtain ⟨q1, q2⟩ := c' k hk
    exact ⟨by rw [e _ (by omega)]; exact q1, by rw [e _ (by omega)]; exact q2⟩
  · obtain ⟨q1, q2, q3⟩ := d' i hi
    exact ⟨by rw [e _ (by omega)]; exact q1, by rw [e _ (by omega)]; exact q2, by rw [e _ (by omega)]; exact q3⟩
  · obtain ⟨w, q1, q2, q3⟩ := e'
    exact ⟨w, q1, by rw [e _ (by omega)]; exact q2, q3⟩
def slkM (p : Nat → Bool) : Nat → Int32
  | 0 => if p 0 then nI 0 else -1
  | k + 1 => if p (k + 1) then nI (k + 1) else slkM p k
theorem mp_slackOf {c p : Nat} (hM : LM L m) (hR : Rel (I (m + 1)) S n sn dn) (hI : BI S n sn dn) (ho : ∀ j, j < n → o j < n) (hL : ML I m S o n) (hc : c < n) (hp : p < n) (k : ∀ I2, same I I2 (fun a => a = m + 1 ∨ a = m + 7) → I2 (m + 1) = I (m + 1) → F (slkM (fun e => hold (setRe S c (slt S o p + nI e)) o n) 99) (L, I2, J, t)) : cal (d + 4) 217 [.ref m, .int (nI c), .int (nI p)] (L, I, J, t) (kI F X) := by
  have hn := hI.1.2
  have hs4 := hI.2.1.2
  generalize hP : (fun e => hold (setRe S c (slt S o p + nI e)) o n) = P at k
  refine e217 (t217_0 ?_)
  simp (disch := omega) only [vpT, nI_leI, nI_ltI, nI_eq, nleT, nleF, nltT, nltF, neqT, neqF, nI_add, pk_mul, subN, divN, nI_clamp, mI1, wrH, wrM1, wrM2, wrowH, wrowM, bI0, bI1, kIi, kVi, kRi, kLi, kIx, kVx, Option.some.injEq, exists_eq_left', true_and, and_true, true_implies, false_implies, implies_true, not_true_eq_false, not_false_eq_true, true_or, or_true, false_or, or_false, forall_eq, iteT, iteF, LM_ hM, hL.2 p hp]
  have out : ∀ I2 (v : Nat), same I I2 (fun a => a = m + 1 ∨ a = m + 7) → (∀ j, j ≠ 6 + 4 * c + 1 → I2 (m + 1) j = I (m + 1) j) → same I (wr I2 (m + 1) (6 + 4 * c + 1) (I (m + 1) (6 + 4 * c + 1))) (fun a => a = m + 1 ∨ a = m + 7) ∧ wr I2 (m + 1) (6 + 4 * c + 1) (I (m + 1) (6 + 4 * c + 1)) (m + 1) = I (m + 1) := fun I2 v hs he => ⟨fun a ha => by
      have : a ≠ m + 1 := fun q => ha (Or.inl q)
      simp (disch := omega) only [vpT, nI_leI, nI_ltI, nI_eq, nleT, nleF, nltT, nltF, neqT, neqF, nI_add, pk_mul, subN, divN, nI_clamp, mI1, wrH, wrM1, wrM2, wrowH, wrowM, bI0, bI1, kIi, kVi, kRi, kLi, kIx, kVx, Option.some.injEq, exists_eq_left', true_and, and_true, true_implies, false_implies, implies_true, not_true_eq_false, not_false_eq_true, true_or, or_true, false_or, or_false, forall_eq, iteT, iteF, LM_ hM]
      exact hs a ha, funext fun j => by
      by_cases e : j = 6 + 4 * c + 1
      · rw [wrH rfl e, e]
      · rw [wrM2 e]; exact he j e⟩
  have main : ∀ e, e ≤ 99 → ∀ I2, same I I2 (fun a => a = m + 1 ∨ a = m + 7) → (∀ j, j ≠ 6 + 4 * c + 1 → I2 (m + 1) j = I (m + 1) j) → (∀ I3, same I I3 (fun a => a = m + 1 ∨ a = m + 7) → I3 (m + 1) = I (m + 1) → F (slkM P e) (L, I3, J, t)) → Wp (cal (d + 3)) kc_217 [] (kI F X) (32, [some (.ref m), some (.int (nI c)), some (.int (nI p)), some (.int (nI (6 + 4 * c + 1))), some (.int (I (m + 1) (6 + 4 * c + 1))), some (.int (slt S o p)), some (.int (nI e)), some (.int (nI 0))], [], (L, I2, J, t)) := by
    intro e
    induction e with
    | zero =>
      intro _ I2 hs he kk
      refine t217_32 ?_
      simp (disch := omega) only [vpT, nI_leI, nI_ltI, nI_eq, nleT, nleF, nltT, nltF, neqT, neqF, nI_add, pk_mul, subN, divN, nI_clamp, mI1, wrH, wrM1, wrM2, wrowH, wrowM, bI0, bI1, kIi, kVi, kRi, kLi, kIx, kVx, Option.some.injEq, exists_eq_left', true_and, and_true, true_implies, false_implies, implies_true, not_true_eq_false, not_false_eq_true, true_or, or_true, false_or, or_false, forall_eq, iteT, iteF, LM_ hM]
      have hB3 : BI (setRe S c (slt S o p + nI 0)) n sn dn := hI
      refine mp_laysSlots (S := setRe S c (slt S o p + nI 0)) (n := n) (sn := sn) (dn := dn) (o := o) hM (Rel_setRe hR hn hs4 hc _ (fun j hj => by rw [wrM2 hj]; exact he j hj) (wrH rfl rfl)) hB3 (fun j hj => ⟨by rw [wrM1 (by omega), hs _ (by omega)]; exact hL.1 j hj, ho j hj⟩) fun I4 hs4' hd4 => t217_57 ?_
      have r4 : I4 (m + 1) = wr I2 (m + 1) (6 + 4 * c + 1) (slt S o p + nI 0) (m + 1) := hs4' _ (by omega)
      have s4 : same I I4 (fun a => a = m + 1 ∨ a = m + 7) := fun a ha => by
        rw [hs4' a (fun q => ha (Or.inr q)), wrM1 (fun q => ha (Or.inl q))]; exact hs a ha
      have he4 : ∀ j, j ≠ 6 + 4 * c + 1 → I4 (m + 1) j = I (m + 1) j := fun j hj => by rw [r4, wrM2 hj]; exact he j hj
      simp (disch := omega) only [vpT, nI_leI, nI_ltI, nI_eq, nleT, nleF, nltT, nltF, neqT, neqF, nI_add, pk_mul, subN, divN, nI_clamp, mI1, wrH, wrM1, wrM2, wrowH, wrowM, bI0, bI1, kIi, kVi, kRi, kLi, kIx, kVx, Option.some.injEq, exists_eq_left', true_and, and_true, true_implies, false_implies, implies_true, not_true_eq_false, not_false_eq_true, true_or, or_true, false_or, or_false, forall_eq, iteT, iteF, LM_ hM]
      refine mp_holds (S := setRe S c (slt S o p + nI 0)) (n := n) (sn := sn) (dn := dn) (o := o) hM (by rw [r4]; exact Rel_setRe hR hn hs4 hc _ (fun j hj => by rw [wrM2 hj]; exact he j hj) (wrH rfl rfl)) hB3 ho ⟨fun j hj => by rw [s4 _ (by omega)]; exact hL.1 j hj, hd4⟩ (t217_61 ?_)
      have ep : hold (setRe S c (slt S o p + nI 0)) o n = P 0 := by rw [← hP]
      rw [ep]
      have e1 : slkM P 0 = if P 0 then nI 0 else -1 := rfl
      rw [e1] at kk
      simp (disch := omega) only [bI0, subN]
      refine ⟨fun h => ?_, fun h => ?_⟩
      · refine t217_32 ?_
        rw [h]
        simp (disch := omega) only [show (nI 0 - nI 1 < nI 0) = True from eq_true (by decide), LM_ hM, vpT, nI_clamp, bI_f, neqT, nI_eq, true_implies, not_true_eq_false, false_implies, and_true, true_and, kIi, Option.some.injEq, exists_eq_left']
        rw [h] at kk
        have := out I4 0 s4 he4
        exact kk _ this.1 this.2
      · refine t217_32 ?_
        rw [btf h]
        have n10 : (nI 1 = nI 0) = False := eq_false nI10
        simp (disch := omega) only [vpT, nI_leI, nI_ltI, nI_eq, nleT, nleF, nltT, nltF, neqT, neqF, nI_add, pk_mul, subN, divN, nI_clamp, mI1, wrH, wrM1, wrM2, wrowH, wrowM, bI0, bI1, kIi, kVi, kRi, kLi, kIx, kVx, Option.some.injEq, exists_eq_left', true_and, and_true, true_implies, false_implies, implies_true, not_true_eq_false, not_false_eq_true, true_or, or_true, false_or, or_false, forall_eq, iteT, iteF, LM_ hM, bI_t, n10]
        rw [if_pos (btf h)] at kk
        have := out I4 0 s4 he4
        exact kk _ this.1 this.2
    | succ e ih =>
      intro hle I2 hs he kk
      refine t217_32 ?_
      simp (disch := omega) only [vpT, nI_leI, nI_ltI, nI_eq, nleT, nleF, nltT, nltF, neqT, neqF, nI_add, pk_mul, subN, divN, nI_clamp, mI1, wrH, wrM1, wrM2, wrowH, wrowM, bI0, bI1, kIi, kVi, kRi, kLi, kIx, kVx, Option.some.injEq, exists_eq_left', true_and, and_true, true_implies, false_implies, implies_true, not_true_eq_false, not_false_eq_true, true_or, or_true, false_or, or_false, forall_eq, iteT, iteF, LM_ hM]
      have hB3 : BI (setRe S c (slt S o p + nI (e + 1))) n sn dn := hI
      refine mp_laysSlots (S := setRe S c (slt S o p + nI (e + 1))) (n := n) (sn := sn) (dn := dn) (o := o) hM (Rel_setRe hR hn hs4 hc _ (fun j hj => by rw [wrM2 hj]; exact he j hj) (wrH rfl rfl)) hB3 (fun j hj => ⟨by rw [wrM1 (by omega), hs _ (by omega)]; exact hL.1 j hj, ho j hj⟩) fun I4 hs4' hd4 => t217_57 ?_
      have r4 : I4 (m + 1) = wr I2 (m + 1) (6 + 4 * c + 1) (slt S o p + nI (e + 1)) (m + 1) := hs4' _ (by omega)
      have s4 : same I I4 (fun a => a = m + 1 ∨ a = m + 7) := fun a ha => by
        rw [hs4' a (fun q => ha (Or.inr q)), wrM1 (fun q => ha (Or.inl q))]; exact hs a ha
      have he4 : ∀ j, j ≠ 6 + 4 * c + 1 → I4 (m + 1) j = I (m + 1) j := fun j hj => by rw [r4, wrM2 hj]; exact he j hj
      simp (disch := omega) only [vpT, nI_leI, nI_ltI, nI_eq, nleT, nleF, nltT, nltF, neqT, neqF, nI_add, pk_mul, subN, divN, nI_clamp, mI1, wrH, wrM1, wrM2, wrowH, wrowM, bI0, bI1, kIi, kVi, kRi, kLi, kIx, kVx, Option.some.injEq, exists_eq_left', true_and, and_true, true_implies, false_implies, implies_true, not_true_eq_false, not_false_eq_true, true_or, or_true, false_or, or_false, forall_eq, iteT, iteF, LM_ hM]
      refine mp_holds (S := setRe S c (slt S o p + nI (e + 1))) (n := n) (sn := sn) (dn := dn) (o := o) hM (by rw [r4]; exact Rel_setRe hR hn hs4 hc _ (fun j hj => by rw [wrM2 hj]; exact he j hj) (wrH rfl rfl)) hB3 ho ⟨fun j hj => by rw [s4 _ (by omega)]; exact hL.1 j hj, hd4⟩ (t217_61 ?_)
      have ep : hold (setRe S c (slt S o p + nI (e + 1))) o n = P (e + 1) := by rw [← hP]
      rw [ep]
      have e1 : slkM P (e + 1) = if P (e + 1) then nI (e + 1) else slkM P e := rfl
      rw [e1] at kk
      simp (disch := omega) only [bI0, subN]
      refine ⟨fun h => ?_, fun h => ?_⟩
      · rw [h] at kk ⊢
        exact ih (by omega) I4 s4 he4 kk
      · refine t217_32 ?_
        rw [btf h]
        have n10 : (nI 1 = nI 0) = False := eq_false nI10
        simp (disch := omega) only [vpT, nI_leI, nI_ltI, nI_eq, nleT, nleF, nltT, nltF, neqT, neqF, nI_add, pk_mul, subN, divN, nI_clamp, mI1, wrH, wrM1, wrM2, wrowH, wrowM, bI0, bI1, kIi, kVi, kRi, kLi, kIx, kVx, Option.some.injEq, exists_eq_left', true_and, and_true, true_implies, false_implies, implies_true, not_true_eq_false, not_false_eq_true, true_or, or_true, false_or, or_false, forall_eq, iteT, iteF, LM_ hM, bI_t, n10]
        rw [if_pos (btf h)] at kk
        have := out I4 0 s4 he4
        exact kk _ this.1 this.2
  exact main 99 (Nat.le_refl _) I same.rf (fun _ _ => rfl) k
end MODEL3
