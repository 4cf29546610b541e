/-! The model's days: all of it. -/
theorem VB.clear {S S0 : BS} {n sn dn T : Nat} (hV : VB S n sn dn T) (f1 : bF S0 0 = nI 0 ∧ bF S0 14 = nI 0 ∧ bF S0 13 = nI 0) (f2 : ∀ j, j ≠ 0 → j ≠ 14 → j ≠ 13 → bF S0 j = bF S j) (f3 : S0.2 = S.2) : VB S0 0 sn 0 1000 := by
  obtain ⟨⟨b1, b2, b3, b4, b5, b6⟩, hP, ⟨v0, v1, v2, v3, v4, v5⟩, hu, shx, hs1, hs2⟩ := hV
  refine ⟨⟨⟨f1.1, by omega⟩, by rw [f2 8 (by decide) (by decide) (by decide)]; exact b2, ⟨f1.2.1, by omega⟩, fun k hk => by omega, fun k hk => by omega, fun k hk => by omega⟩, fun i j hi => by omega, ⟨by omega, fun k hk => by omega, fun k hk => ?_, fun k hk => ?_, by rw [f1.2.2]; decide, fun k hk => by omega⟩, fun k hk => by omega, shx, hs1, by rw [f2 11 (by decide) (by decide) (by decide)]; exact hs2⟩
  · show 0 ≤ (S0.2.2.2.2.2.2.2.1 k).toInt ∧ (S0.2.2.2.2.2.2.2.1 k).toInt ≤ 99
    rw [f3]
    exact v2 k hk
  · show (S0.2.2.2.2.2.2.2.2.2.1 k).toInt ≤ 1999
    rw [f3]
    exact v3 k hk
section MDAY4
variable {d : Nat} {L : hL} {I : Nat → Nat → Int32} {J : Nat → Nat → Int64} {t : tl} {m n sn dn T sh : Nat} {S S0 : BS} {F : Int32 → hp → Prop} {X : Nat → hp → Prop}
--facts LM_ hM
theorem mp_dayRun {seed : Int32} {N way what : Nat} {s : dst} {l5 l6 l7 l8 l9 : Option Value} (hM : LM L m) (hR : Rel (I (m + 1)) S n sn dn) (hV : VB S n sn dn T) (hN : N ≤ 40) (hw : way ≤ 3) (hwh : what < 3) (hsh : bF S 11 = nI sh) (hs3 : sh ≤ 3) (f1 : bF S0 0 = nI 0 ∧ bF S0 14 = nI 0 ∧ bF S0 13 = nI 0) (f2 : ∀ j, j ≠ 0 → j ≠ 14 → j ≠ 13 → bF S0 j = bF S j) (f3 : S0.2 = S.2) (htr : Trc sh (nI way) seed N (S0, 0, 0, nI 0, nI 0, nI 0) s) (hps : ∃ S1, Pss (slt s.1 (ordN s.1)) s.2.1 s.2.2.1 s.2.1 s.1 S1)
    (K : ∀ I2, same I I2 (mda m) → (∀ j, j < 20 ∨ 30 < j ∨ j = 28 ∨ j = 29 → I2 m j = I m j) → (∀ j, j < 189 → I2 (m + 1) j = I (m + 1) j) → F (if what = 0 then (dfin s).1 else if what = 1 then (dfin s).2.1 else (dfin s).2.2) (L, I2, J, t)) :
    cal (d + 18) 267 [.ref m] (L, I, J, t) (kV (fun h2 => Wp (cal (d + 18)) kc_269 [] (kI F X) (66, [some (.ref m), some (.int seed), some (.int (nI N)), some (.int (nI way)), some (.int (nI what)), l5, l6, l7, l8, l9], [], h2)) (fun e h2 => kI F X (.inr e) h2)) := by
  have hn := hV.1.1.2
  have hs4 := hV.1.2.1.2
  have hd20 := hV.1.2.2.1.2
  refine mp_laysAside hM fun I1 ks1 ka1 => t269_66 ?_
  have hR1 : Rel (I1 (m + 1)) S n sn dn := by rw [ks1 _ (by omega)]; exact hR
  simp (disch := omega) only [vpT, nI_leI, nI_ltI, nI_eq, nleT, nleF, nltT, nltF, neqT, neqF, nI_add, pk_mul, subN, divN, nI_clamp, mI1, wrH, wrM1, wrM2, wrowH, wrowM, bI0, bI1, kIi, kVi, kRi, kLi, kIx, kVx, Option.some.injEq, exists_eq_left', true_and, and_true, true_implies, false_implies, implies_true, not_true_eq_false, not_false_eq_true, true_or, or_true, false_or, or_false, forall_eq, iteT, iteF, LM_ hM]
  refine mp_beginsDay hM (t269_71 ?_)
  generalize hI2 : wr (wr (wr (wr (wr (wr (wr (wr I1 m 30 seed) m 25 (nI 0)) m 26 (nI 0)) m 27 (nI 0)) (m + 1) 0 (nI 0)) (m + 1) 1 (nI 0)) (m + 1) 5 (nI 0)) (m + 1) 188 (nI 0) = I2
  have b2 : ∀ a, a ≠ m → a ≠ m + 1 → I2 a = I1 a := fun a h1 h2 => by rw [← hI2]; simp (disch := omega) only [vpT, nI_leI, nI_ltI, nI_eq, nleT, nleF, nltT, nltF, neqT, neqF, nI_add, pk_mul, subN, divN, nI_clamp, mI1, wrH, wrM1, wrM2, wrowH, wrowM, bI0, bI1, kIi, kVi, kRi, kLi, kIx, kVx, Option.some.injEq, exists_eq_left', true_and, and_true, true_implies, false_implies, implies_true, not_true_eq_false, not_false_eq_true, true_or, or_true, false_or, or_false, forall_eq, iteT, iteF, LM_ hM]
  have m2 : ∀ j, j < 25 ∨ 30 < j ∨ j = 28 ∨ j = 29 → I2 m j = I1 m j := fun j hj => by rw [← hI2]; simp (disch := omega) only [vpT, nI_leI, nI_ltI, nI_eq, nleT, nleF, nltT, nltF, neqT, neqF, nI_add, pk_mul, subN, divN, nI_clamp, mI1, wrH, wrM1, wrM2, wrowH, wrowM, bI0, bI1, kIi, kVi, kRi, kLi, kIx, kVx, Option.some.injEq, exists_eq_left', true_and, and_true, true_implies, false_implies, implies_true, not_true_eq_false, not_false_eq_true, true_or, or_true, false_or, or_false, forall_eq, iteT, iteF, LM_ hM]
  have r2 : ∀ j, j ≠ 0 → j ≠ 1 → j ≠ 5 → j ≠ 188 → I2 (m + 1) j = I1 (m + 1) j := fun j q1 q2 q3 q4 => by rw [← hI2]; simp (disch := omega) only [vpT, nI_leI, nI_ltI, nI_eq, nleT, nleF, nltT, nltF, neqT, neqF, nI_add, pk_mul, subN, divN, nI_clamp, mI1, wrH, wrM1, wrM2, wrowH, wrowM, bI0, bI1, kIi, kVi, kRi, kLi, kIx, kVx, Option.some.injEq, exists_eq_left', true_and, and_true, true_implies, false_implies, implies_true, not_true_eq_false, not_false_eq_true, true_or, or_true, false_or, or_false, forall_eq, iteT, iteF, LM_ hM]
  have c0 : I2 (m + 1) 0 = nI 0 := by rw [← hI2]; simp (disch := omega) only [vpT, nI_leI, nI_ltI, nI_eq, nleT, nleF, nltT, nltF, neqT, neqF, nI_add, pk_mul, subN, divN, nI_clamp, mI1, wrH, wrM1, wrM2, wrowH, wrowM, bI0, bI1, kIi, kVi, kRi, kLi, kIx, kVx, Option.some.injEq, exists_eq_left', true_and, and_true, true_implies, false_implies, implies_true, not_true_eq_false, not_false_eq_true, true_or, or_true, false_or, or_false, forall_eq, iteT, iteF, LM_ hM]
  have c1 : I2 (m + 1) 1 = nI 0 := by rw [← hI2]; simp (disch := omega) only [vpT, nI_leI, nI_ltI, nI_eq, nleT, nleF, nltT, nltF, neqT, neqF, nI_add, pk_mul, subN, divN, nI_clamp, mI1, wrH, wrM1, wrM2, wrowH, wrowM, bI0, bI1, kIi, kVi, kRi, kLi, kIx, kVx, Option.some.injEq, exists_eq_left', true_and, and_true, true_implies, false_implies, implies_true, not_true_eq_false, not_false_eq_true, true_or, or_true, false_or, or_false, forall_eq, iteT, iteF, LM_ hM]
  have c5 : I2 (m + 1) 5 = nI 0 := by rw [← hI2]; simp (disch := omega) only [vpT, nI_leI, nI_ltI, nI_eq, nleT, nleF, nltT, nltF, neqT, neqF, nI_add, pk_mul, subN, divN, nI_clamp, mI1, wrH, wrM1, wrM2, wrowH, wrowM, bI0, bI1, kIi, kVi, kRi, kLi, kIx, kVx, Option.some.injEq, exists_eq_left', true_and, and_true, true_implies, false_implies, implies_true, not_true_eq_false, not_false_eq_true, true_or, or_true, false_or, or_false, forall_eq, iteT, iteF, LM_ hM]
  have c8 : I2 (m + 1) 188 = nI 0 := by rw [← hI2]; simp (disch := omega) only [vpT, nI_leI, nI_ltI, nI_eq, nleT, nleF, nltT, nltF, neqT, neqF, nI_add, pk_mul, subN, divN, nI_clamp, mI1, wrH, wrM1, wrM2, wrowH, wrowM, bI0, bI1, kIi, kVi, kRi, kLi, kIx, kVx, Option.some.injEq, exists_eq_left', true_and, and_true, true_implies, false_implies, implies_true, not_true_eq_false, not_false_eq_true, true_or, or_true, false_or, or_false, forall_eq, iteT, iteF, LM_ hM]
  have d30 : I2 m 30 = seed := by rw [← hI2]; simp (disch := omega) only [vpT, nI_leI, nI_ltI, nI_eq, nleT, nleF, nltT, nltF, neqT, neqF, nI_add, pk_mul, subN, divN, nI_clamp, mI1, wrH, wrM1, wrM2, wrowH, wrowM, bI0, bI1, kIi, kVi, kRi, kLi, kIx, kVx, Option.some.injEq, exists_eq_left', true_and, and_true, true_implies, false_implies, implies_true, not_true_eq_false, not_false_eq_true, true_or, or_true, false_or, or_false, forall_eq, iteT, iteF, LM_ hM]
  have da : (I2 m 25, I2 m 26, I2 m 27) = (nI 0, nI 0, nI 0) := by rw [← hI2]; simp (disch := omega) only [vpT, nI_leI, nI_ltI, nI_eq, nleT, nleF, nltT, nltF, neqT, neqF, nI_add, pk_mul, subN, divN, nI_clamp, mI1, wrH, wrM1, wrM2, wrowH, wrowM, bI0, bI1, kIi, kVi, kRi, kLi, kIx, kVx, Option.some.injEq, exists_eq_left', true_and, and_true, true_implies, false_implies, implies_true, not_true_eq_false, not_false_eq_true, true_or, or_true, false_or, or_false, forall_eq, iteT, iteF, LM_ hM]
  have hV0 := hV.clear f1 f2 f3
  have hR2 : Rel (I2 (m + 1)) S0 0 sn 0 := by
    obtain ⟨⟨h1, h2, h3, h4, h5, h6⟩, a, b, c', d', -⟩ := hR1
    refine ⟨⟨c0, by rw [c1, f1.2.2], by rw [r2 2 (by decide) (by decide) (by decide) (by decide), f2 11 (by decide) (by decide) (by decide)]; exact h3, by rw [r2 3 (by decide) (by decide) (by decide) (by decide), f2 12 (by decide) (by decide) (by decide)]; exact h4, by rw [r2 4 (by decide) (by decide) (by decide) (by decide)]; exact h5, c5⟩, fun k hk => by omega, fun k hk => ?_, fun k hk => ?_, fun k hk => by omega, 0, by decide, c8, fun k hk => by omega⟩
    · rw [r2 _ (by omega) (by omega) (by omega) (by omega)]
      show _ = S0.2.2.2.2.2.2.2.1 k
      rw [f3]
      exact b k hk
    · rw [r2 _ (by omega) (by omega) (by omega) (by omega), r2 _ (by omega) (by omega) (by omega) (by omega)]
      show _ = S0.2.2.2.2.2.2.2.2.1 k ∧ _ = S0.2.2.2.2.2.2.2.2.2.1 k
      rw [f3]
      exact c' k hk
  obtain ⟨sq, e0, eN, hc⟩ := Trc_chn htr
  have sh0 : bF (sq 0).1 11 = nI sh := by rw [e0]; show bF S0 11 = nI sh; rw [f2 11 (by decide) (by decide) (by decide)]; exact hsh
  refine lg (n := N) (fun i l h => ∃ I3 l7 l8 l9, l = [some (.ref m), some (.int seed), some (.int (nI N)), some (.int (nI way)), some (.int (nI what)), some (.int (nI (dR seed i))), some (.int (nI i)), l7, l8, l9] ∧ h = (L, I3, J, t) ∧ same I2 I3 (mda m) ∧ I3 (m + 3) = I2 (m + 3) ∧ (∀ j, j < 20 ∨ 30 < j ∨ j = 28 ∨ j = 29 → I3 m j = I2 m j) ∧ Rel (I3 (m + 1)) (sq i).1 (sq i).2.1 sn (sq i).2.2.1 ∧ VB (sq i).1 (sq i).2.1 sn (sq i).2.2.1 (1000 + 4000 * i) ∧ bF (sq i).1 11 = nI sh ∧ I3 m 30 = dsx seed i ∧ (I3 m 25, I3 m 26, I3 m 27) = (sq i).2.2.2 ∧ I3 (m + 1) 188 = nI 0) ?_ ?_ (Nat.zero_le _) _ _ ⟨I2, _, _, _, rfl, rfl, same.rf, rfl, fun _ _ => rfl, by rw [e0]; exact hR2, by rw [e0]; exact hV0, sh0, d30, by rw [e0]; exact da, c8⟩
  · rintro i hi ih _ _ ⟨I3, l7, l8, l9, rfl, rfl, g1, g2, g3, g4, g5, g6, g7, g8, g9⟩
    have hRl := dR_le (seed := seed) (i := i + 1)
    have hwe20 : dwe seed i ≤ 20 := by unfold dwe; omega
    have hso8 : dso seed i < 8 := Nat.mod_lt _ (by decide)
    refine mp_dayStep (T := 1000 + 4000 * i) (sh := sh) (so := dso seed i) (R1 := dR seed (i + 1)) (we := dwe seed i) (s := sq i) (s' := sq (i + 1)) (x0 := dsx seed i) hM rfl rfl rfl g7 hso8 hwe20 (Nat.le_trans hRl (by omega)) (by omega) g9 g4 g5 g6 hs3 hw hi hN g8 (hc i hi) fun I4 l7 l8 l9 k1 k2 k3 k4 k5 k6 k7 k8 k9 => ih _ _ ⟨I4, l7, l8, l9, rfl, rfl, g1.tr k1, k2.trans g2, fun j hj => (k3 j hj).trans (g3 j hj), k4, ?_, k6, k7, k8, k9⟩
    rw [show 1000 + 4000 * (i + 1) = 1000 + 4000 * i + 4000 by omega]
    exact k5
  · rintro _ _ ⟨I3, l7, l8, l9, rfl, rfl, g1, g2, g3, g4, g5, g6, g7, g8, g9⟩
    rw [eN] at g4 g5 g6 g8
    obtain ⟨Sz, nz, dz', az⟩ := s
    dsimp only at g4 g5 g6 g8 hps
    obtain ⟨S1, hps⟩ := hps
    have hnz := g5.1.1.2
    have hD : due (slt Sz (ordN Sz)) (nI 1000000000) nz 0 = nz := due_all fun j hj => by
      have := slt_up g5.1 g5.2.2.1 (k := j) (o := ordN Sz) (by omega) (fun q hq => (BI_or g5.1 q (by omega)).2)
      have hb := g5.2.2.1.1
      rw [Int32.le_iff_toInt_le, nIi (by omega)]
      omega
    refine t269_77 ?_
    simp (disch := omega) only [vpT, nI_leI, nI_ltI, nI_eq, nleT, nleF, nltT, nltF, neqT, neqF, nI_add, pk_mul, subN, divN, nI_clamp, mI1, wrH, wrM1, wrM2, wrowH, wrowM, bI0, bI1, kIi, kVi, kRi, kLi, kIx, kVx, Option.some.injEq, exists_eq_left', true_and, and_true, true_implies, false_implies, implies_true, not_true_eq_false, not_false_eq_true, true_or, or_true, false_or, or_false, forall_eq, iteT, iteF, LM_ hM]
    refine mp_passesTo (S := Sz) (n := nz) (sn := sn) (dn := dz') (D := nz) hM g4 g5.1 g5.2.1 hD hps fun I4 k1 k2 k25 k26 k27 _ _ => t269_261 ?_
    simp (disch := omega) only [vpT, nI_leI, nI_ltI, nI_eq, nleT, nleF, nltT, nltF, neqT, neqF, nI_add, pk_mul, subN, divN, nI_clamp, mI1, wrH, wrM1, wrM2, wrowH, wrowM, bI0, bI1, kIi, kVi, kRi, kLi, kIx, kVx, Option.some.injEq, exists_eq_left', true_and, and_true, true_implies, false_implies, implies_true, not_true_eq_false, not_false_eq_true, true_or, or_true, false_or, or_false, forall_eq, iteT, iteF, LM_ hM]
    refine mp_comesBack hM fun I5 ks5 ka5 => t269_266 ?_
    have m5 : I5 m = I4 m := ks5 _ (by omega)
    have a25 : I3 m 25 = az.1 := congrArg Prod.fst g8
    have a26 : I3 m 26 = az.2.1 := congrArg (fun z : acc => z.2.1) g8
    have a27 : I3 m 27 = az.2.2 := congrArg (fun z : acc => z.2.2) g8
    have back : ∀ j, j < 189 → I5 (m + 1) j = I (m + 1) j := fun j hj => by
      rw [ka5 j hj, k1 _ (by omega), g2, b2 _ (by omega) (by omega), ka1 j hj]
    have fld : ∀ j, j < 20 ∨ 30 < j ∨ j = 28 ∨ j = 29 → I5 m j = I m j := fun j hj => by
      rw [m5, k2 j (by omega), g3 j hj, m2 j (by omega), ks1 m (by omega)]
    have sm : same I I5 (mda m) := fun a ha => by
      rw [ks5 a (by omega), k1 a (by omega), g1 a ha, b2 a (by omega) (by omega), ks1 a (by omega)]
    have kk := K I5 sm fld back
    have r25 : I5 m 25 = (dfin (Sz, nz, dz', az)).1 := by rw [m5, k25, a25]; rfl
    have r26 : I5 m 26 = (dfin (Sz, nz, dz', az)).2.1 := by rw [m5, k26, a26]; rfl
    have r27 : I5 m 27 = (dfin (Sz, nz, dz', az)).2.2 := by rw [m5, k27, a27]; rfl
    simp (disch := omega) only [vpT, nI_leI, nI_ltI, nI_eq, nleT, nleF, nltT, nltF, neqT, neqF, nI_add, pk_mul, subN, divN, nI_clamp, mI1, wrH, wrM1, wrM2, wrowH, wrowM, bI0, bI1, kIi, kVi, kRi, kLi, kIx, kVx, Option.some.injEq, exists_eq_left', true_and, and_true, true_implies, false_implies, implies_true, not_true_eq_false, not_false_eq_true, true_or, or_true, false_or, or_false, forall_eq, iteT, iteF, LM_ hM, r25, r26, r27]
    refine ⟨fun h => ⟨fun h1 => ?_, fun h1 => ?_⟩, fun h => ?_⟩
    · rw [if_neg h, if_neg h1] at kk; exact kk
    · rw [if_neg h, if_pos h1] at kk; exact kk
    · rw [if_pos h] at kk; exact kk
end MDAY4
