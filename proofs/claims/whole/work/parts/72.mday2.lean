/-! The model's days: run through. -/
section MDAY2
variable {d : Nat} {L : hL} {I : Nat → Nat → Int32} {J : Nat → Nat → Int64} {t : tl} {m n sn dn T sh : Nat} {S S0 : BS} {x : Int32} {F : Int32 → hp → Prop} {G : hp → Prop} {X : Nat → hp → Prop}
--facts LM_ hM
theorem mp_rightT {w : Nat} (hM : LM L m) (h0 : I m 0 = nI 0) (K : F (nI 1) (L, I, J, t)) : cal (d + 1) 180 [.ref m, .int (nI 1), .int (nI w)] (L, I, J, t) (kI F X) := by
  refine e180 (t180_0 ?_)
  have n10 : (nI 1 = nI 0) = False := eq_false nI10
  simp (disch := omega) only [vpT, nI_leI, nI_ltI, nI_eq, nleT, nleF, nltT, nltF, neqT, neqF, nI_add, pk_mul, subN, divN, nI_clamp, mI1, wrH, wrM1, wrM2, wrowH, wrowM, bI0, bI1, kIi, kVi, kRi, kLi, kIx, kVx, Option.some.injEq, exists_eq_left', true_and, and_true, true_implies, false_implies, implies_true, not_true_eq_false, not_false_eq_true, true_or, or_true, false_or, or_false, forall_eq, iteT, iteF, LM_ hM, h0, n10]
  exact K
theorem mp_rightF {w : Nat} (hM : LM L m) (h0 : I m 0 = nI 0) (hw : 0 < w) (hw2 : w < 10) (K : F (nI 0) (L, wr I m 0 (nI w), J, t)) : cal (d + 1) 180 [.ref m, .int (nI 0), .int (nI w)] (L, I, J, t) (kI F X) := by
  refine e180 (t180_0 ?_)
  simp (disch := omega) only [vpT, nI_leI, nI_ltI, nI_eq, nleT, nleF, nltT, nltF, neqT, neqF, nI_add, pk_mul, subN, divN, nI_clamp, mI1, wrH, wrM1, wrM2, wrowH, wrowM, bI0, bI1, kIi, kVi, kRi, kLi, kIx, kVx, Option.some.injEq, exists_eq_left', true_and, and_true, true_implies, false_implies, implies_true, not_true_eq_false, not_false_eq_true, true_or, or_true, false_or, or_false, forall_eq, iteT, iteF, LM_ hM, h0]
  exact K
theorem mp_beginsDay {seed : Int32} (hM : LM L m) (K : G (L, wr (wr (wr (wr (wr (wr (wr (wr I m 30 seed) m 25 (nI 0)) m 26 (nI 0)) m 27 (nI 0)) (m + 1) 0 (nI 0)) (m + 1) 1 (nI 0)) (m + 1) 5 (nI 0)) (m + 1) 188 (nI 0), J, t)) : cal (d + 1) 270 [.ref m, .int seed] (L, I, J, t) (kV G X) := by
  refine e270 (t270_0 ?_)
  simp (disch := omega) only [vpT, nI_leI, nI_ltI, nI_eq, nleT, nleF, nltT, nltF, neqT, neqF, nI_add, pk_mul, subN, divN, nI_clamp, mI1, wrH, wrM1, wrM2, wrowH, wrowM, bI0, bI1, kIi, kVi, kRi, kLi, kIx, kVx, Option.some.injEq, exists_eq_left', true_and, and_true, true_implies, false_implies, implies_true, not_true_eq_false, not_false_eq_true, true_or, or_true, false_or, or_false, forall_eq, iteT, iteF, LM_ hM]
  exact K
abbrev mda (m : Nat) : Nat → Prop := fun a => a = m ∨ a = m + 1 ∨ a = m + 3 ∨ a = m + 6 ∨ a = m + 7 ∨ a = m + 8
/-- one day more: what it is on the model's side -/
theorem mp_dayStep {seed : Int32} {N way i what : Nat} {s s' : dst} {l7 l8 l9 : Option Value} (hM : LM L m) (hR : Rel (I (m + 1)) s.1 s.2.1 sn s.2.2.1) (hV : VB s.1 s.2.1 sn s.2.2.1 (1000 + 4000 * i)) (hsh : bF s.1 11 = nI sh) (hs3 : sh ≤ 3) (hw : way ≤ 3) (hi : i < N) (hN : N ≤ 40) (hdx : I m 30 = dsx seed i) (hac : (I m 25, I m 26, I m 27) = s.2.2.2) (hst : DStp sh (nI way) (dso seed i) (dR seed (i + 1)) (dwe seed i) s s')
    (K : ∀ I2 l7 l8 l9, same I I2 (mda m) → I2 (m + 3) = I (m + 3) → (∀ j, j < 20 ∨ 30 < j ∨ j = 28 ∨ j = 29 → I2 m j = I m j) → Rel (I2 (m + 1)) s'.1 s'.2.1 sn s'.2.2.1 → VB s'.1 s'.2.1 sn s'.2.2.1 (1000 + 4000 * (i + 1)) → bF s'.1 11 = nI sh → I2 m 30 = dsx seed (i + 1) → (I2 m 25, I2 m 26, I2 m 27) = s'.2.2.2 → Wp (cal (d + 18)) kc_269 [] (kI F X) (77, [some (.ref m), some (.int seed), some (.int (nI N)), some (.int (nI way)), some (.int (nI what)), some (.int (nI (dR seed (i + 1)))), some (.int (nI (i + 1))), l7, l8, l9], [], (L, I2, J, t))) :
    Wp (cal (d + 18)) kc_269 [] (kI F X) (77, [some (.ref m), some (.int seed), some (.int (nI N)), some (.int (nI way)), some (.int (nI what)), some (.int (nI (dR seed i))), some (.int (nI i)), l7, l8, l9], [], (L, I, J, t)) := by
  obtain ⟨S, n2, d2, a2⟩ := s
  obtain ⟨S', n', d', a'⟩ := s'
  obtain ⟨⟨S4, n4, d4, a4⟩, ⟨S5, n5, d5, a5⟩, Sc, hp1, hp2, hAdd, hArr, hn', hd'⟩ := hst
  dsimp only at hR hV hsh hac hp2 hAdd hArr hn' hd'
  subst hn'
  cases hd'
  have hRl := dR_le (seed := seed) (i := i + 1)
  have hRb := nI_bd (R := dR seed (i + 1)) (B := 1000 + 4000 * i) (Nat.le_trans hRl (by omega)) (by omega)
  have hV4 : VB S4 n4 sn d4 (1000 + 4000 * i) := PIf.vb (s := (S, n2, d2, a2)) (s' := (S4, n4, d4, a4)) hV (Nat.le_refl _) (by omega) hRb.1 hRb.2 hp1
  have shp : ∀ {S S' : BS} {n dn D : Nat} {sl : Nat → Int32}, Pss sl n dn D S S' → bF S' 11 = bF S 11 := by
    intro S S' n dn D sl
    induction D generalizing S' with
    | zero => intro h; rw [show S' = S from h]
    | succ D ih =>
      intro h
      obtain ⟨Sa, Ta, w1, w2, w3⟩ := h
      rw [w3.1.2 11 (by decide), w2.1.2 11 (by decide)]
      exact ih w1
  have shi : ∀ {c : Prop} {x : Int32} {s s' : dst}, PIf c x s s' → bF s'.1 11 = bF s.1 11 := by
    intro c x s s' h
    rcases h with ⟨-, D, ⟨-, ⟨S1, q1, q2⟩, -⟩, -⟩ | ⟨-, rfl⟩
    · rw [q2]; exact shp q1
    · rfl
  have hsh4 : bF S4 11 = nI sh := (shi hp1).trans hsh
  have hn4 := hV4.1.1.2
  have hn2 := hV.1.1.2
  have hn5 : n5 < 10 := by
    rcases hp2 with ⟨h10, D, ⟨z1, -, -⟩, z2, -⟩ | ⟨h10, z⟩
    · have hD1 : 0 < D := by
        dsimp only at z1 h10
        rw [← z1, h10]
        show 0 < (if slt S4 (ordN S4) 0 < slt S4 (ordN S4) 0 then 0 else due (slt S4 (ordN S4)) (slt S4 (ordN S4) 0) 9 1)
        rw [if_neg Int32.lt_irrefl]
        have := (due_spec (f := slt S4 (ordN S4)) (x := slt S4 (ordN S4) 0) (m := 9) (k := 1)).2.2
        omega
      dsimp only at z2 h10
      omega
    · cases z
      dsimp only at h10
      omega
  have hV5 : VB S5 n5 sn d5 (1000 + 4000 * i + 4000) := by
    rcases hp2 with ⟨h10, z⟩ | ⟨h10, z⟩
    · have h10' : n4 = 10 := h10
      have sl := slt_up hV4.1 hV4.2.2.1 (k := 0) (o := ordN S4) (by omega) (fun j hj => (BI_or hV4.1 j (by omega)).2)
      exact PIf.vb (s := (S4, n4, d4, a4)) (s' := (S5, n5, d5, a5)) (c := n4 = 10) hV4 (by omega) (by omega) sl.2.2 (by omega) (Or.inl ⟨h10, z⟩)
    · cases z
      exact hV4.up (by omega) (by omega)
  have hsh5 : bF S5 11 = nI sh := (shi hp2).trans hsh4
  have hVc : VB Sc (n5 + 1) sn d5 (1000 + 4000 * i + 4000) := hV5.add hn5 (Nat.mod_lt _ (by decide)) (by omega) (by unfold dwe; omega) hAdd
  have hshc : bF Sc 11 = nI sh := by rw [hAdd.1.2 11 (by decide)]; exact hsh5
  have hlast : ordN Sc (n5 + 1 - 1) = n5 + 1 - 1 := by
    show ordN Sc n5 = n5
    unfold ordN
    rw [hAdd.2.1.2.2.2.2.2, nI_clamp (by omega)]
  refine t269_77 ?_
  simp (disch := omega) only [vpT, nI_leI, nI_ltI, nI_eq, nleT, nleF, nltT, nltF, neqT, neqF, nI_add, pk_mul, subN, divN, nI_clamp, mI1, wrH, wrM1, wrM2, wrowH, wrowM, bI0, bI1, kIi, kVi, kRi, kLi, kIx, kVx, Option.some.injEq, exists_eq_left', true_and, and_true, true_implies, false_implies, implies_true, not_true_eq_false, not_false_eq_true, true_or, or_true, false_or, or_false, forall_eq, iteT, iteF, LM_ hM]
  refine mp_draw (k := 8) hM (by decide) (by decide) (t269_89 ?_)
  simp (disch := omega) only [vpT, nI_leI, nI_ltI, nI_eq, nleT, nleF, nltT, nltF, neqT, neqF, nI_add, pk_mul, subN, divN, nI_clamp, mI1, wrH, wrM1, wrM2, wrowH, wrowM, bI0, bI1, kIi, kVi, kRi, kLi, kIx, kVx, Option.some.injEq, exists_eq_left', true_and, and_true, true_implies, false_implies, implies_true, not_true_eq_false, not_false_eq_true, true_or, or_true, false_or, or_false, forall_eq, iteT, iteF, LM_ hM]
  refine mp_draw (k := 10) hM (by decide) (by decide) (t269_99 ?_)
  simp (disch := omega) only [vpT, nI_leI, nI_ltI, nI_eq, nleT, nleF, nltT, nltF, neqT, neqF, nI_add, pk_mul, subN, divN, nI_clamp, mI1, wrH, wrM1, wrM2, wrowH, wrowM, bI0, bI1, kIi, kVi, kRi, kLi, kIx, kVx, Option.some.injEq, exists_eq_left', true_and, and_true, true_implies, false_implies, implies_true, not_true_eq_false, not_false_eq_true, true_or, or_true, false_or, or_false, forall_eq, iteT, iteF, LM_ hM]
  refine mp_draw (k := 4) hM (by decide) (by decide) (t269_107 ?_)
  simp (disch := omega) only [vpT, nI_leI, nI_ltI, nI_eq, nleT, nleF, nltT, nltF, neqT, neqF, nI_add, pk_mul, subN, divN, nI_clamp, mI1, wrH, wrM1, wrM2, wrowH, wrowM, bI0, bI1, kIi, kVi, kRi, kLi, kIx, kVx, Option.some.injEq, exists_eq_left', true_and, and_true, true_implies, false_implies, implies_true, not_true_eq_false, not_false_eq_true, true_or, or_true, false_or, or_false, forall_eq, iteT, iteF, LM_ hM, hdx, hR.1.1, hR.1.2.1]
  generalize hI3 : wr (wr (wr I m 30 (drw (dsx seed i))) m 30 (drw (drw (dsx seed i)))) m 30 (drw (drw (drw (dsx seed i)))) = I3
  have b3 : ∀ a, a ≠ m → I3 a = I a := fun a ha => by rw [← hI3]; simp (disch := omega) only [vpT, nI_leI, nI_ltI, nI_eq, nleT, nleF, nltT, nltF, neqT, neqF, nI_add, pk_mul, subN, divN, nI_clamp, mI1, wrH, wrM1, wrM2, wrowH, wrowM, bI0, bI1, kIi, kVi, kRi, kLi, kIx, kVx, Option.some.injEq, exists_eq_left', true_and, and_true, true_implies, false_implies, implies_true, not_true_eq_false, not_false_eq_true, true_or, or_true, false_or, or_false, forall_eq, iteT, iteF, LM_ hM]
  have m3 : ∀ j, j ≠ 30 → I3 m j = I m j := fun j hj => by rw [← hI3]; simp (disch := omega) only [vpT, nI_leI, nI_ltI, nI_eq, nleT, nleF, nltT, nltF, neqT, neqF, nI_add, pk_mul, subN, divN, nI_clamp, mI1, wrH, wrM1, wrM2, wrowH, wrowM, bI0, bI1, kIi, kVi, kRi, kLi, kIx, kVx, Option.some.injEq, exists_eq_left', true_and, and_true, true_implies, false_implies, implies_true, not_true_eq_false, not_false_eq_true, true_or, or_true, false_or, or_false, forall_eq, iteT, iteF, LM_ hM]
  have m30 : I3 m 30 = dsx seed (i + 1) := by
    rw [← hI3]
    simp (disch := omega) only [vpT, nI_leI, nI_ltI, nI_eq, nleT, nleF, nltT, nltF, neqT, neqF, nI_add, pk_mul, subN, divN, nI_clamp, mI1, wrH, wrM1, wrM2, wrowH, wrowM, bI0, bI1, kIi, kVi, kRi, kLi, kIx, kVx, Option.some.injEq, exists_eq_left', true_and, and_true, true_implies, false_implies, implies_true, not_true_eq_false, not_false_eq_true, true_or, or_true, false_or, or_false, forall_eq, iteT, iteF, LM_ hM]
    rfl
  have hR3 : Rel (I3 (m + 1)) S n2 sn d2 := by rw [b3 _ (by omega)]; exact hR
  have hso : dvl (drw (dsx seed i)) % 8 = dso seed i := rfl
  have hRe : dR seed i + dvl (drw (drw (dsx seed i))) % 10 = dR seed (i + 1) := rfl
  have hwe : dvl (drw (drw (drw (dsx seed i)))) % 4 + 1 = dwe seed i := rfl
  simp only [hso, hRe, hwe]
  -- it comes
  have last : ∀ I5, same I I5 (mda m) → I5 (m + 3) = I (m + 3) → (∀ j, j < 20 ∨ 30 < j ∨ j = 28 ∨ j = 29 → I5 m j = I m j) → Rel (I5 (m + 1)) S5 n5 sn d5 → I5 m 30 = dsx seed (i + 1) → (I5 m 25, I5 m 26, I5 m 27) = a5 → ∀ l9, Wp (cal (d + 18)) kc_269 [] (kI F X) (155, [some (.ref m), some (.int seed), some (.int (nI N)), some (.int (nI way)), some (.int (nI what)), some (.int (nI (dR seed (i + 1)))), some (.int (nI i)), some (.int (nI (dso seed i))), some (.int (nI (dwe seed i))), l9], [], (L, I5, J, t)) := by
    intro I5 hs5 h53 hf5 hR5 hd5 ha5 l9
    refine t269_155 ?_
    simp (disch := omega) only [vpT, nI_leI, nI_ltI, nI_eq, nleT, nleF, nltT, nltF, neqT, neqF, nI_add, pk_mul, subN, divN, nI_clamp, mI1, wrH, wrM1, wrM2, wrowH, wrowM, bI0, bI1, kIi, kVi, kRi, kLi, kIx, kVx, Option.some.injEq, exists_eq_left', true_and, and_true, true_implies, false_implies, implies_true, not_true_eq_false, not_false_eq_true, true_or, or_true, false_or, or_false, forall_eq, iteT, iteF, LM_ hM, hR5.1.1]
    generalize hI6 : wr (wr (wr (wr (wr (wr I5 (m + 1) _ _) (m + 1) _ _) (m + 1) _ _) (m + 1) _ _) (m + 1) _ _) (m + 1) 0 _ = I6
    have b6 : ∀ a, a ≠ m + 1 → I6 a = I5 a := fun a ha => by rw [← hI6]; simp (disch := omega) only [vpT, nI_leI, nI_ltI, nI_eq, nleT, nleF, nltT, nltF, neqT, neqF, nI_add, pk_mul, subN, divN, nI_clamp, mI1, wrH, wrM1, wrM2, wrowH, wrowM, bI0, bI1, kIi, kVi, kRi, kLi, kIx, kVx, Option.some.injEq, exists_eq_left', true_and, and_true, true_implies, false_implies, implies_true, not_true_eq_false, not_false_eq_true, true_or, or_true, false_or, or_false, forall_eq, iteT, iteF, LM_ hM]
    have rw6 : ∀ j, j ≠ 0 → j ≠ 6 + 4 * n5 → j ≠ 6 + 4 * n5 + 1 → j ≠ 6 + 4 * n5 + 2 → j ≠ 6 + 4 * n5 + 3 → j ≠ 46 + n5 → I6 (m + 1) j = I5 (m + 1) j := fun j q1 q2 q3 q4 q5 q6 => by
      rw [← hI6]
      simp (disch := omega) only [vpT, nI_leI, nI_ltI, nI_eq, nleT, nleF, nltT, nltF, neqT, neqF, nI_add, pk_mul, subN, divN, nI_clamp, mI1, wrH, wrM1, wrM2, wrowH, wrowM, bI0, bI1, kIi, kVi, kRi, kLi, kIx, kVx, Option.some.injEq, exists_eq_left', true_and, and_true, true_implies, false_implies, implies_true, not_true_eq_false, not_false_eq_true, true_or, or_true, false_or, or_false, forall_eq, iteT, iteF, LM_ hM]
    have c0 : I6 (m + 1) 0 = nI (n5 + 1) := by rw [← hI6]; simp (disch := omega) only [vpT, nI_leI, nI_ltI, nI_eq, nleT, nleF, nltT, nltF, neqT, neqF, nI_add, pk_mul, subN, divN, nI_clamp, mI1, wrH, wrM1, wrM2, wrowH, wrowM, bI0, bI1, kIi, kVi, kRi, kLi, kIx, kVx, Option.some.injEq, exists_eq_left', true_and, and_true, true_implies, false_implies, implies_true, not_true_eq_false, not_false_eq_true, true_or, or_true, false_or, or_false, forall_eq, iteT, iteF, LM_ hM]
    have c1 : I6 (m + 1) (6 + 4 * n5) = nI (dso seed i) := by rw [← hI6]; simp (disch := omega) only [vpT, nI_leI, nI_ltI, nI_eq, nleT, nleF, nltT, nltF, neqT, neqF, nI_add, pk_mul, subN, divN, nI_clamp, mI1, wrH, wrM1, wrM2, wrowH, wrowM, bI0, bI1, kIi, kVi, kRi, kLi, kIx, kVx, Option.some.injEq, exists_eq_left', true_and, and_true, true_implies, false_implies, implies_true, not_true_eq_false, not_false_eq_true, true_or, or_true, false_or, or_false, forall_eq, iteT, iteF, LM_ hM]
    have c2 : I6 (m + 1) (6 + 4 * n5 + 1) = nI (dR seed (i + 1)) := by rw [← hI6]; simp (disch := omega) only [vpT, nI_leI, nI_ltI, nI_eq, nleT, nleF, nltT, nltF, neqT, neqF, nI_add, pk_mul, subN, divN, nI_clamp, mI1, wrH, wrM1, wrM2, wrowH, wrowM, bI0, bI1, kIi, kVi, kRi, kLi, kIx, kVx, Option.some.injEq, exists_eq_left', true_and, and_true, true_implies, false_implies, implies_true, not_true_eq_false, not_false_eq_true, true_or, or_true, false_or, or_false, forall_eq, iteT, iteF, LM_ hM]
    have c3 : I6 (m + 1) (6 + 4 * n5 + 2) = nI 1999 := by rw [← hI6]; simp (disch := omega) only [vpT, nI_leI, nI_ltI, nI_eq, nleT, nleF, nltT, nltF, neqT, neqF, nI_add, pk_mul, subN, divN, nI_clamp, mI1, wrH, wrM1, wrM2, wrowH, wrowM, bI0, bI1, kIi, kVi, kRi, kLi, kIx, kVx, Option.some.injEq, exists_eq_left', true_and, and_true, true_implies, false_implies, implies_true, not_true_eq_false, not_false_eq_true, true_or, or_true, false_or, or_false, forall_eq, iteT, iteF, LM_ hM]
    have c4 : I6 (m + 1) (6 + 4 * n5 + 3) = nI (dwe seed i) := by rw [← hI6]; simp (disch := omega) only [vpT, nI_leI, nI_ltI, nI_eq, nleT, nleF, nltT, nltF, neqT, neqF, nI_add, pk_mul, subN, divN, nI_clamp, mI1, wrH, wrM1, wrM2, wrowH, wrowM, bI0, bI1, kIi, kVi, kRi, kLi, kIx, kVx, Option.some.injEq, exists_eq_left', true_and, and_true, true_implies, false_implies, implies_true, not_true_eq_false, not_false_eq_true, true_or, or_true, false_or, or_false, forall_eq, iteT, iteF, LM_ hM]
    have c5 : I6 (m + 1) (46 + n5) = nI n5 := by rw [← hI6]; simp (disch := omega) only [vpT, nI_leI, nI_ltI, nI_eq, nleT, nleF, nltT, nltF, neqT, neqF, nI_add, pk_mul, subN, divN, nI_clamp, mI1, wrH, wrM1, wrM2, wrowH, wrowM, bI0, bI1, kIi, kVi, kRi, kLi, kIx, kVx, Option.some.injEq, exists_eq_left', true_and, and_true, true_implies, false_implies, implies_true, not_true_eq_false, not_false_eq_true, true_or, or_true, false_or, or_false, forall_eq, iteT, iteF, LM_ hM]
    have hs4 := hV5.1.2.1.2
    have hd20 := hV5.1.2.2.1.2
    have hR6 : (∀ w, I5 (m + 1) 188 = nI w → w / 2 ^ n5 % 2 = 0) → Rel (I6 (m + 1)) Sc (n5 + 1) sn d5 := by
      intro hw0
      obtain ⟨⟨h1, h2, h3, h4, h5, h6⟩, a, b, c', d'', w, q1, q2, q3⟩ := hR5
      obtain ⟨⟨a0, a1⟩, ⟨x1, x2, x3, x4, x5, x6⟩, ac, g1, g2, g3, g4, g5, g6⟩ := hAdd
      refine ⟨⟨c0, by rw [rw6 _ (by omega) (by omega) (by omega) (by omega) (by omega) (by omega), a1 13 (by decide)]; exact h2, by rw [rw6 _ (by omega) (by omega) (by omega) (by omega) (by omega) (by omega), a1 11 (by decide)]; exact h3, by rw [rw6 _ (by omega) (by omega) (by omega) (by omega) (by omega) (by omega), a1 12 (by decide)]; exact h4, by rw [rw6 _ (by omega) (by omega) (by omega) (by omega) (by omega) (by omega)]; exact h5, by rw [rw6 _ (by omega) (by omega) (by omega) (by omega) (by omega) (by omega)]; exact h6⟩, fun k hk => ?_, fun k hk => by rw [rw6 _ (by omega) (by omega) (by omega) (by omega) (by omega) (by omega), g1]; exact b k hk, fun k hk => by rw [rw6 _ (by omega) (by omega) (by omega) (by omega) (by omega) (by omega), rw6 _ (by omega) (by omega) (by omega) (by omega) (by omega) (by omega), g2, g3]; exact c' k hk, fun k hk => by rw [rw6 _ (by omega) (by omega) (by omega) (by omega) (by omega) (by omega), rw6 _ (by omega) (by omega) (by omega) (by omega) (by omega) (by omega), rw6 _ (by omega) (by omega) (by omega) (by omega) (by omega) (by omega), g4, g5, g6]; exact d'' k hk, w, q1, by rw [rw6 _ (by omega) (by omega) (by omega) (by omega) (by omega) (by omega)]; exact q2, fun k hk => ?_⟩
      · by_cases e : k = n5
        · subst e
          exact ⟨c1.trans x1.symm, c2.trans x2.symm, c3.trans x3.symm, c4.trans x4.symm, c5.trans x6.symm⟩
        · have z := a k (by omega)
          have z2 := ac k (by omega)
          rw [z2.1, z2.2.1, z2.2.2.1, z2.2.2.2.1, z2.2.2.2.2.2, rw6 _ (by omega) (by omega) (by omega) (by omega) (by omega) (by omega), rw6 _ (by omega) (by omega) (by omega) (by omega) (by omega) (by omega), rw6 _ (by omega) (by omega) (by omega) (by omega) (by omega) (by omega), rw6 _ (by omega) (by omega) (by omega) (by omega) (by omega) (by omega), rw6 _ (by omega) (by omega) (by omega) (by omega) (by omega) (by omega)]
          exact z
      · by_cases e : k = n5
        · subst e
          rw [x5, hw0 w q2]
        · rw [(ac k (by omega)).2.2.2.2.1]; exact q3 k (by omega)
    sorry
  sorry
end MDAY2
