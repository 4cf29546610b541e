/-! The law's calls: undo, close, open. -/
theorem l64_1 : ∀ k, k < 2000 → (nI k).toInt64 + 1 = (nI (k + 1)).toInt64 := by decide +kernel
section CALLS7
variable {I0 I I2 I3 I5 : Nat → Nat → Int32} {J J2 : Nat → Nat → Int64} {L : hL} {x n sn dn ac fi tp sd c : Nat} {t : tl} {F : Int32 → hp → Prop} {G : hp → Prop} {X : Nat → hp → Prop} {d e z l : Nat} {ex : Bool}
--facts LK_ hK, LM_ hK.m, LB_ hK.b
theorem P_undo (hK : LK L x) (h : SX I0 I x n sn dn ac fi tp sd) : PR I0 L x 53 176 9 9 d e [] I J z l ex := by
  have h2 := h
  obtain ⟨⟨a1, a2⟩, ⟨b1, b2, b3, b4, b5⟩, ⟨c1, c2, c3, c4, c5, c6⟩, ⟨d1, d2, d3, d4⟩, e1⟩ := h2
  refine e53 (t53_0 ?_)
  simp (disch := omega) only [vpT, nI_leI, nI_ltI, nI_eq, nleT, nleF, nltT, nltF, neqT, neqF, nI_add, pk_mul, subN, divN, nI_clamp, mI1, wrH, wrM1, wrM2, wrowH, wrowM, bI0, bI1, kIi, kVi, kRi, kLi, kIx, kVx, Option.some.injEq, exists_eq_left', true_and, and_true, true_implies, false_implies, implies_true, not_true_eq_false, not_false_eq_true, true_or, or_true, false_or, or_false, forall_eq, iteT, iteF, LK_ hK, LM_ hK.m, LB_ hK.b]
  refine sp_takeBack hK.a hK.b (by omega) c1 c2 c4 c5 (fun h0 => t53_14 ?_) (fun h0 I2 hs2 k1 k2 kA => t53_14 ?_)
  · subst h0
    simp (disch := omega) only [vpT, nI_leI, nI_ltI, nI_eq, nleT, nleF, nltT, nltF, neqT, neqF, nI_add, pk_mul, subN, divN, nI_clamp, mI1, wrH, wrM1, wrM2, wrowH, wrowM, bI0, bI1, kIi, kVi, kRi, kLi, kIx, kVx, Option.some.injEq, exists_eq_left', true_and, and_true, true_implies, false_implies, implies_true, not_true_eq_false, not_false_eq_true, true_or, or_true, false_or, or_false, forall_eq, iteT, iteF, LK_ hK, LM_ hK.m, LB_ hK.b]
    refine ⟨I, J, rfl, (by first | exact h.2.2.2.2 | exact fun a ha => (em a (Or.inr ha)).trans (h.2.2.2.2 a ha) | exact fun a ha => (em2 a (Or.inr ha)).trans (h.2.2.2.2 a ha) | exact fun a ha => (hs a (by omega)).trans (h.2.2.2.2 a ha) | exact fun a ha => (wrM1 (by omega)).trans ((em a (Or.inr ha)).trans (h.2.2.2.2 a ha)) | exact fun a ha => (e3 a (by omega)).trans ((em a (Or.inr ha)).trans (h.2.2.2.2 a ha)) | exact fun a ha => (cs a (by omega) (by omega)).trans (h.2.2.2.2 a ha) | exact fun a ha => (hs2 a (by omega)).trans (h.2.2.2.2 a ha) | exact fun a ha => (e3 a (by omega) (by omega)).trans (h.2.2.2.2 a ha) | exact fun a ha => (e3 a (by omega) (by omega) (by omega) (by omega)).trans (h.2.2.2.2 a ha) | exact fun a ha => (hs5 a (by omega)).trans ((hs4' a (by omega)).trans ((hs3' a (by omega)).trans ((hs2 a (by omega)).trans (h.2.2.2.2 a ha)))) | (intro a ha; (try rw [wrM1 (by omega)]); (try rw [hs6 a (by omega)]); (try rw [hs5 a (by omega)]); (try rw [e5 a (by omega)]); (try rw [hs4 a (by omega)]); (try rw [e4 a (by omega)]); (try rw [hs3 a (by omega)]); (try rw [e3 a (by omega)]); (try rw [wrM1 (by omega)]); (try rw [hs2 a (by omega)]); (try rw [e2 a (by omega)]); (try rw [em2 a (Or.inr ha)]); (try rw [cs a (by omega) (by omega)]); (try rw [hs1 a (by omega)]); (try rw [hs a (by omega)]); (try rw [em a (Or.inr ha)]); exact h.2.2.2.2 a ha)), fun J2 => e176 (t176_0 ?_)⟩
    simp (disch := omega) only [vpT, nI_leI, nI_ltI, nI_eq, nleT, nleF, nltT, nltF, neqT, neqF, nI_add, pk_mul, subN, divN, nI_clamp, mI1, wrH, wrM1, wrM2, wrowH, wrowM, bI0, bI1, kIi, kVi, kRi, kLi, kIx, kVx, Option.some.injEq, exists_eq_left', true_and, and_true, true_implies, false_implies, implies_true, not_true_eq_false, not_false_eq_true, true_or, or_true, false_or, or_false, forall_eq, iteT, iteF, LK_ hK, LM_ hK.m, LB_ hK.b, c3]
    exact f1 h same.rf rfl
  · simp (disch := omega) only [vpT, nI_leI, nI_ltI, nI_eq, nleT, nleF, nltT, nltF, neqT, neqF, nI_add, pk_mul, subN, divN, nI_clamp, mI1, wrH, wrM1, wrM2, wrowH, wrowM, bI0, bI1, kIi, kVi, kRi, kLi, kIx, kVx, Option.some.injEq, exists_eq_left', true_and, and_true, true_implies, false_implies, implies_true, not_true_eq_false, not_false_eq_true, true_or, or_true, false_or, or_false, forall_eq, iteT, iteF, LK_ hK, LM_ hK.m, LB_ hK.b, k2]
    have em : ∀ a, x + 271 ≤ a ∨ a < x → I2 a = I a := fun a ha => hs2 a (by omega)
    obtain ⟨n', sn', dn', g1, g2⟩ := c6 (ac - 1) (by omega)
    have hn' := g1.1.1.1.2
    have hsn' := g1.1.1.2.1.2
    have hdn' := g1.1.1.2.2.1.2
    refine ⟨I2, J, rfl, (by first | exact h.2.2.2.2 | exact fun a ha => (em a (Or.inr ha)).trans (h.2.2.2.2 a ha) | exact fun a ha => (em2 a (Or.inr ha)).trans (h.2.2.2.2 a ha) | exact fun a ha => (hs a (by omega)).trans (h.2.2.2.2 a ha) | exact fun a ha => (wrM1 (by omega)).trans ((em a (Or.inr ha)).trans (h.2.2.2.2 a ha)) | exact fun a ha => (e3 a (by omega)).trans ((em a (Or.inr ha)).trans (h.2.2.2.2 a ha)) | exact fun a ha => (cs a (by omega) (by omega)).trans (h.2.2.2.2 a ha) | exact fun a ha => (hs2 a (by omega)).trans (h.2.2.2.2 a ha) | exact fun a ha => (e3 a (by omega) (by omega)).trans (h.2.2.2.2 a ha) | exact fun a ha => (e3 a (by omega) (by omega) (by omega) (by omega)).trans (h.2.2.2.2 a ha) | exact fun a ha => (hs5 a (by omega)).trans ((hs4' a (by omega)).trans ((hs3' a (by omega)).trans ((hs2 a (by omega)).trans (h.2.2.2.2 a ha)))) | (intro a ha; (try rw [wrM1 (by omega)]); (try rw [hs6 a (by omega)]); (try rw [hs5 a (by omega)]); (try rw [e5 a (by omega)]); (try rw [hs4 a (by omega)]); (try rw [e4 a (by omega)]); (try rw [hs3 a (by omega)]); (try rw [e3 a (by omega)]); (try rw [wrM1 (by omega)]); (try rw [hs2 a (by omega)]); (try rw [e2 a (by omega)]); (try rw [em2 a (Or.inr ha)]); (try rw [cs a (by omega) (by omega)]); (try rw [hs1 a (by omega)]); (try rw [hs a (by omega)]); (try rw [em a (Or.inr ha)]); exact h.2.2.2.2 a ha)), fun J2 => e176 (t176_0 ?_)⟩
    simp (disch := omega) only [vpT, nI_leI, nI_ltI, nI_eq, nleT, nleF, nltT, nltF, neqT, neqF, nI_add, pk_mul, subN, divN, nI_clamp, mI1, wrH, wrM1, wrM2, wrowH, wrowM, bI0, bI1, kIi, kVi, kRi, kLi, kIx, kVx, Option.some.injEq, exists_eq_left', true_and, and_true, true_implies, false_implies, implies_true, not_true_eq_false, not_false_eq_true, true_or, or_true, false_or, or_false, forall_eq, iteT, iteF, LK_ hK, LM_ hK.m, LB_ hK.b, em, c3]
    refine lg (n := 189) (fun i lv h => ∃ I7, lv = [some (.ref (x + 271)), some (.int (nI i))] ∧ h = (L, I7, J2, z, l, ex) ∧ same I2 I7 (fun a => a = x + 271 ∨ a = x + 271 + 1) ∧ I7 (x + 271) 5 = nI (ac - 1) ∧ I7 (x + 271) 0 = nI 0 ∧ (∀ j, j ≠ 0 → j ≠ 5 → I7 (x + 271) j = I (x + 271) j) ∧ ∀ j, j < i → I7 (x + 271 + 1) j = I (x + 271 + 4) (189 * (ac - 1) + j)) ?_ ?_ (Nat.zero_le _) _ _ ⟨_, rfl, rfl, fun a ha => by rw [wrM1 (by omega), wrM1 (by omega)], wrH rfl rfl, by rw [wrM2 (by omega)]; exact wrH rfl rfl, fun j j1 j2 => by rw [wrM2 (by omega), wrM2 (by omega), em _ (by omega)], fun j hj => by omega⟩
    · rintro i hi ih _ _ ⟨I7, rfl, rfl, hs7, f5, f0, ff, q1⟩
      have e4 : I7 (x + 271 + 4) = I (x + 271 + 4) := by rw [hs7 _ (by omega), em _ (by omega)]
      refine t176_26 ?_
      simp (disch := omega) only [vpT, nI_leI, nI_ltI, nI_eq, nleT, nleF, nltT, nltF, neqT, neqF, nI_add, pk_mul, subN, divN, nI_clamp, mI1, wrH, wrM1, wrM2, wrowH, wrowM, bI0, bI1, kIi, kVi, kRi, kLi, kIx, kVx, Option.some.injEq, exists_eq_left', true_and, and_true, true_implies, false_implies, implies_true, not_true_eq_false, not_false_eq_true, true_or, or_true, false_or, or_false, forall_eq, iteT, iteF, LK_ hK, LM_ hK.m, LB_ hK.b, f5, e4]
      refine ih _ _ ⟨_, rfl, rfl, fun a ha => by rw [wrM1 (by omega)]; exact hs7 a ha, by rw [wrM1 (by omega)]; exact f5, by rw [wrM1 (by omega)]; exact f0, fun j j1 j2 => by rw [wrM1 (by omega)]; exact ff j j1 j2, fun j hj => ?_⟩
      by_cases q : j = i
      · rw [wrH rfl q, q]
      · rw [wrM2 q]; exact q1 j (by omega)
    · rintro _ _ ⟨I7, rfl, rfl, hs7, f5, f0, ff, q1⟩
      refine t176_26 ?_
      simp (disch := omega) only [vpT, nI_leI, nI_ltI, nI_eq, nleT, nleF, nltT, nltF, neqT, neqF, nI_add, pk_mul, subN, divN, nI_clamp, mI1, wrH, wrM1, wrM2, wrowH, wrowM, bI0, bI1, kIi, kVi, kRi, kLi, kIx, kVx, Option.some.injEq, exists_eq_left', true_and, and_true, true_implies, false_implies, implies_true, not_true_eq_false, not_false_eq_true, true_or, or_true, false_or, or_false, forall_eq, iteT, iteF, LK_ hK, LM_ hK.m, LB_ hK.b, f5]
      have eb : bd I7 (x + 1 + 2) = bd I2 (x + 1 + 2) := hs7.bd fun a r1 r2 => by omega
      refine ⟨I7, J2, rfl, f0, rfl, n', sn', dn', ac - 1, fi, tp, sd, ⟨?_, ?_⟩, ⟨?_, ?_, b3, fun k hk => ?_, ?_⟩, ⟨?_, ?_, f5, c4, by omega, ?_⟩, ⟨?_, ?_, d3, fun k hk => ?_⟩, fun a ha => ?_⟩
      · rw [eb]; exact g1.ag kA
      · rw [eb]; exact (g2.congr hn' hsn' hdn' q1).ag hn' hsn' hdn' kA
      · rw [hs7 x (by omega), hs2 x (by omega)]; exact b1
      · rw [ff 7 (by omega) (by omega)]; exact b2
      · rw [hs7 (x + 56) (by omega), hs2 (x + 56) (by omega), hs7 (x + 271 + 5) (by omega), em _ (by omega)]; exact b4 k hk
      · rw [hs7 x (by omega), hs2 x (by omega), ff 16 (by omega) (by omega)]; exact b5
      · rw [hs7 (x + 58) (by omega)]; exact k1
      · rw [hs7 (x + 58) (by omega)]; exact k2
      · intro i hi
        obtain ⟨n1, s1, m1, u1, u2⟩ := c6 i (by omega)
        have hr : rng fi i < 16 := Nat.mod_lt _ (by decide)
        have e1 : bd I7 (x + 58 + 2 + 13 * rng fi i) = bd I (x + 58 + 2 + 13 * rng fi i) := by rw [hs7.bd (fun a r1 r2 => by omega), hs2.bd (fun a r1 r2 => by omega)]
        rw [e1]
        exact ⟨n1, s1, m1, u1, by rw [hs7 (x + 271 + 4) (by omega), em _ (by omega)]; exact u2⟩
      · rw [hs7 (x + 268) (by omega), hs2 (x + 268) (by omega)]; exact d1
      · rw [ff 29 (by omega) (by omega)]; exact d2
      · rw [hs7 (x + 269) (by omega), hs2 (x + 269) (by omega), hs7 (x + 271 + 9) (by omega), em _ (by omega)]; exact d4 k hk
      · rw [hs7 a (by omega), hs2 a (by omega)]; exact e1 a ha
theorem P_close {p1 p2 : Int32} (hK : LK L x) (h : SX I0 I x n sn dn ac fi tp sd) : PR I0 L x 118 264 0 9 d e [.int p1, .int p2] I J z l ex := by
  have hn := h.n10
  have hs4 := h.i.2.1.2
  have hd20 := h.i.2.2.1.2
  have h8 : I (x + 1 + 2) 8 = nI sn := h.i.2.1.1
  have m4 : I (x + 271 + 1) 4 = nI sn := h.r.1.2.2.2.2.1
  refine e118 (t118_0 ?_)
  refine sp_checkArgument (fun q => Or.inl ⟨rfl, (by unfold NE9; decide), I, J, rfl, (by first | exact h.2.2.2.2 | exact fun a ha => (em a (Or.inr ha)).trans (h.2.2.2.2 a ha) | exact fun a ha => (em2 a (Or.inr ha)).trans (h.2.2.2.2 a ha) | exact fun a ha => (hs a (by omega)).trans (h.2.2.2.2 a ha) | exact fun a ha => (wrM1 (by omega)).trans ((em a (Or.inr ha)).trans (h.2.2.2.2 a ha)) | exact fun a ha => (e3 a (by omega)).trans ((em a (Or.inr ha)).trans (h.2.2.2.2 a ha)) | exact fun a ha => (cs a (by omega) (by omega)).trans (h.2.2.2.2 a ha) | exact fun a ha => (hs2 a (by omega)).trans (h.2.2.2.2 a ha) | exact fun a ha => (e3 a (by omega) (by omega)).trans (h.2.2.2.2 a ha) | exact fun a ha => (e3 a (by omega) (by omega) (by omega) (by omega)).trans (h.2.2.2.2 a ha) | exact fun a ha => (hs5 a (by omega)).trans ((hs4' a (by omega)).trans ((hs3' a (by omega)).trans ((hs2 a (by omega)).trans (h.2.2.2.2 a ha)))) | (intro a ha; (try rw [wrM1 (by omega)]); (try rw [hs6 a (by omega)]); (try rw [hs5 a (by omega)]); (try rw [e5 a (by omega)]); (try rw [hs4 a (by omega)]); (try rw [e4 a (by omega)]); (try rw [hs3 a (by omega)]); (try rw [e3 a (by omega)]); (try rw [wrM1 (by omega)]); (try rw [hs2 a (by omega)]); (try rw [e2 a (by omega)]); (try rw [em2 a (Or.inr ha)]); (try rw [cs a (by omega) (by omega)]); (try rw [hs1 a (by omega)]); (try rw [hs a (by omega)]); (try rw [em a (Or.inr ha)]); exact h.2.2.2.2 a ha)), fun J2 => e264 (t264_0 ?_)⟩) (fun q1 q2 => t118_8 ?_)
  · simp (disch := omega) only [vpT, nI_leI, nI_ltI, nI_eq, nleT, nleF, nltT, nltF, neqT, neqF, nI_add, pk_mul, subN, divN, nI_clamp, mI1, wrH, wrM1, wrM2, wrowH, wrowM, bI0, bI1, kIi, kVi, kRi, kLi, kIx, kVx, Option.some.injEq, exists_eq_left', true_and, and_true, true_implies, false_implies, implies_true, not_true_eq_false, not_false_eq_true, true_or, or_true, false_or, or_false, forall_eq, iteT, iteF, LK_ hK, LM_ hK.m, LB_ hK.b]
    refine mp_inF (lo := nI 0) (hi := nI 1998) rfl rfl q (t264_15 ?_)
    simp (disch := omega) only [vpT, nI_leI, nI_ltI, nI_eq, nleT, nleF, nltT, nltF, neqT, neqF, nI_add, pk_mul, subN, divN, nI_clamp, mI1, wrH, wrM1, wrM2, wrowH, wrowM, bI0, bI1, kIi, kVi, kRi, kLi, kIx, kVx, Option.some.injEq, exists_eq_left', true_and, and_true, true_implies, false_implies, implies_true, not_true_eq_false, not_false_eq_true, true_or, or_true, false_or, or_false, forall_eq, iteT, iteF, LK_ hK, LM_ hK.m, LB_ hK.b]
    refine mp_rightF hK.m (wrH rfl rfl) (by decide) (by decide) (t264_42 ?_)
    simp (disch := omega) only [vpT, nI_leI, nI_ltI, nI_eq, nleT, nleF, nltT, nltF, neqT, neqF, nI_add, pk_mul, subN, divN, nI_clamp, mI1, wrH, wrM1, wrM2, wrowH, wrowM, bI0, bI1, kIi, kVi, kRi, kLi, kIx, kVx, Option.some.injEq, exists_eq_left', true_and, and_true, true_implies, false_implies, implies_true, not_true_eq_false, not_false_eq_true, true_or, or_true, false_or, or_false, forall_eq, iteT, iteF, LK_ hK, LM_ hK.m, LB_ hK.b]
    exact ff h same.rf rfl
  obtain ⟨a, ha, rfl⟩ := i_le (by omega) q1 q2
  simp (disch := omega) only [vpT, nI_leI, nI_ltI, nI_eq, nleT, nleF, nltT, nltF, neqT, neqF, nI_add, pk_mul, subN, divN, nI_clamp, mI1, wrH, wrM1, wrM2, wrowH, wrowM, bI0, bI1, kIi, kVi, kRi, kLi, kIx, kVx, Option.some.injEq, exists_eq_left', true_and, and_true, true_implies, false_implies, implies_true, not_true_eq_false, not_false_eq_true, true_or, or_true, false_or, or_false, forall_eq, iteT, iteF, LK_ hK, LM_ hK.m, LB_ hK.b]
  refine sp_checkArgument (fun q => Or.inl ⟨rfl, (by unfold NE9; decide), I, J, rfl, (by first | exact h.2.2.2.2 | exact fun a ha => (em a (Or.inr ha)).trans (h.2.2.2.2 a ha) | exact fun a ha => (em2 a (Or.inr ha)).trans (h.2.2.2.2 a ha) | exact fun a ha => (hs a (by omega)).trans (h.2.2.2.2 a ha) | exact fun a ha => (wrM1 (by omega)).trans ((em a (Or.inr ha)).trans (h.2.2.2.2 a ha)) | exact fun a ha => (e3 a (by omega)).trans ((em a (Or.inr ha)).trans (h.2.2.2.2 a ha)) | exact fun a ha => (cs a (by omega) (by omega)).trans (h.2.2.2.2 a ha) | exact fun a ha => (hs2 a (by omega)).trans (h.2.2.2.2 a ha) | exact fun a ha => (e3 a (by omega) (by omega)).trans (h.2.2.2.2 a ha) | exact fun a ha => (e3 a (by omega) (by omega) (by omega) (by omega)).trans (h.2.2.2.2 a ha) | exact fun a ha => (hs5 a (by omega)).trans ((hs4' a (by omega)).trans ((hs3' a (by omega)).trans ((hs2 a (by omega)).trans (h.2.2.2.2 a ha)))) | (intro a ha; (try rw [wrM1 (by omega)]); (try rw [hs6 a (by omega)]); (try rw [hs5 a (by omega)]); (try rw [e5 a (by omega)]); (try rw [hs4 a (by omega)]); (try rw [e4 a (by omega)]); (try rw [hs3 a (by omega)]); (try rw [e3 a (by omega)]); (try rw [wrM1 (by omega)]); (try rw [hs2 a (by omega)]); (try rw [e2 a (by omega)]); (try rw [em2 a (Or.inr ha)]); (try rw [cs a (by omega) (by omega)]); (try rw [hs1 a (by omega)]); (try rw [hs a (by omega)]); (try rw [em a (Or.inr ha)]); exact h.2.2.2.2 a ha)), fun J2 => e264 (t264_0 ?_)⟩) (fun q3 q4 => t118_18 ?_)
  · simp (disch := omega) only [vpT, nI_leI, nI_ltI, nI_eq, nleT, nleF, nltT, nltF, neqT, neqF, nI_add, pk_mul, subN, divN, nI_clamp, mI1, wrH, wrM1, wrM2, wrowH, wrowM, bI0, bI1, kIi, kVi, kRi, kLi, kIx, kVx, Option.some.injEq, exists_eq_left', true_and, and_true, true_implies, false_implies, implies_true, not_true_eq_false, not_false_eq_true, true_or, or_true, false_or, or_false, forall_eq, iteT, iteF, LK_ hK, LM_ hK.m, LB_ hK.b]
    refine mp_inT (lo := nI 0) (hi := nI 1998) rfl rfl ⟨q1, q2⟩ (t264_15 ?_)
    simp (disch := omega) only [vpT, nI_leI, nI_ltI, nI_eq, nleT, nleF, nltT, nltF, neqT, neqF, nI_add, pk_mul, subN, divN, nI_clamp, mI1, wrH, wrM1, wrM2, wrowH, wrowM, bI0, bI1, kIi, kVi, kRi, kLi, kIx, kVx, Option.some.injEq, exists_eq_left', true_and, and_true, true_implies, false_implies, implies_true, not_true_eq_false, not_false_eq_true, true_or, or_true, false_or, or_false, forall_eq, iteT, iteF, LK_ hK, LM_ hK.m, LB_ hK.b]
    refine mp_inF (lo := nI (a + 1)) (hi := nI 1999) (l64_1 a (by omega)) rfl q (t264_30 ?_)
    simp (disch := omega) only [vpT, nI_leI, nI_ltI, nI_eq, nleT, nleF, nltT, nltF, neqT, neqF, nI_add, pk_mul, subN, divN, nI_clamp, mI1, wrH, wrM1, wrM2, wrowH, wrowM, bI0, bI1, kIi, kVi, kRi, kLi, kIx, kVx, Option.some.injEq, exists_eq_left', true_and, and_true, true_implies, false_implies, implies_true, not_true_eq_false, not_false_eq_true, true_or, or_true, false_or, or_false, forall_eq, iteT, iteF, LK_ hK, LM_ hK.m, LB_ hK.b]
    refine mp_rightF hK.m (wrH rfl rfl) (by decide) (by decide) (t264_42 ?_)
    simp (disch := omega) only [vpT, nI_leI, nI_ltI, nI_eq, nleT, nleF, nltT, nltF, neqT, neqF, nI_add, pk_mul, subN, divN, nI_clamp, mI1, wrH, wrM1, wrM2, wrowH, wrowM, bI0, bI1, kIi, kVi, kRi, kLi, kIx, kVx, Option.some.injEq, exists_eq_left', true_and, and_true, true_implies, false_implies, implies_true, not_true_eq_false, not_false_eq_true, true_or, or_true, false_or, or_false, forall_eq, iteT, iteF, LK_ hK, LM_ hK.m, LB_ hK.b]
    exact ff h same.rf rfl
  have pre : ∀ I3 J2 t F, Wp (cal (e + 39)) kc_264 [] F (42, [some (.ref (x + 271)), some (.int (nI a)), some (.int p2)], [.int (nI 1)], (L, wr I3 (x + 271) 0 (nI 0), J2, t)) → cal (e + 40) 264 [.ref (x + 271), .int (nI a), .int p2] (L, I3, J2, t) F := by
    intro I3 J2 t F kk
    refine e264 (t264_0 ?_)
    simp (disch := omega) only [vpT, nI_leI, nI_ltI, nI_eq, nleT, nleF, nltT, nltF, neqT, neqF, nI_add, pk_mul, subN, divN, nI_clamp, mI1, wrH, wrM1, wrM2, wrowH, wrowM, bI0, bI1, kIi, kVi, kRi, kLi, kIx, kVx, Option.some.injEq, exists_eq_left', true_and, and_true, true_implies, false_implies, implies_true, not_true_eq_false, not_false_eq_true, true_or, or_true, false_or, or_false, forall_eq, iteT, iteF, LK_ hK, LM_ hK.m, LB_ hK.b]
    refine mp_inT (lo := nI 0) (hi := nI 1998) rfl rfl ⟨q1, q2⟩ (t264_15 ?_)
    simp (disch := omega) only [vpT, nI_leI, nI_ltI, nI_eq, nleT, nleF, nltT, nltF, neqT, neqF, nI_add, pk_mul, subN, divN, nI_clamp, mI1, wrH, wrM1, wrM2, wrowH, wrowM, bI0, bI1, kIi, kVi, kRi, kLi, kIx, kVx, Option.some.injEq, exists_eq_left', true_and, and_true, true_implies, false_implies, implies_true, not_true_eq_false, not_false_eq_true, true_or, or_true, false_or, or_false, forall_eq, iteT, iteF, LK_ hK, LM_ hK.m, LB_ hK.b]
    refine mp_inT (lo := nI (a + 1)) (hi := nI 1999) (l64_1 a (by omega)) rfl ⟨q3, q4⟩ (t264_30 ?_)
    simp (disch := omega) only [vpT, nI_leI, nI_ltI, nI_eq, nleT, nleF, nltT, nltF, neqT, neqF, nI_add, pk_mul, subN, divN, nI_clamp, mI1, wrH, wrM1, wrM2, wrowH, wrowM, bI0, bI1, kIi, kVi, kRi, kLi, kIx, kVx, Option.some.injEq, exists_eq_left', true_and, and_true, true_implies, false_implies, implies_true, not_true_eq_false, not_false_eq_true, true_or, or_true, false_or, or_false, forall_eq, iteT, iteF, LK_ hK, LM_ hK.m, LB_ hK.b]
    exact mp_rightT hK.m (wrH rfl rfl) kk
  by_cases h4 : sn = 4
  · subst h4
    simp (disch := omega) only [vpT, nI_leI, nI_ltI, nI_eq, nleT, nleF, nltT, nltF, neqT, neqF, nI_add, pk_mul, subN, divN, nI_clamp, mI1, wrH, wrM1, wrM2, wrowH, wrowM, bI0, bI1, kIi, kVi, kRi, kLi, kIx, kVx, Option.some.injEq, exists_eq_left', true_and, and_true, true_implies, false_implies, implies_true, not_true_eq_false, not_false_eq_true, true_or, or_true, false_or, or_false, forall_eq, iteT, iteF, LK_ hK, LM_ hK.m, LB_ hK.b, h8]
    refine ⟨I, J, rfl, (by first | exact h.2.2.2.2 | exact fun a ha => (em a (Or.inr ha)).trans (h.2.2.2.2 a ha) | exact fun a ha => (em2 a (Or.inr ha)).trans (h.2.2.2.2 a ha) | exact fun a ha => (hs a (by omega)).trans (h.2.2.2.2 a ha) | exact fun a ha => (wrM1 (by omega)).trans ((em a (Or.inr ha)).trans (h.2.2.2.2 a ha)) | exact fun a ha => (e3 a (by omega)).trans ((em a (Or.inr ha)).trans (h.2.2.2.2 a ha)) | exact fun a ha => (cs a (by omega) (by omega)).trans (h.2.2.2.2 a ha) | exact fun a ha => (hs2 a (by omega)).trans (h.2.2.2.2 a ha) | exact fun a ha => (e3 a (by omega) (by omega)).trans (h.2.2.2.2 a ha) | exact fun a ha => (e3 a (by omega) (by omega) (by omega) (by omega)).trans (h.2.2.2.2 a ha) | exact fun a ha => (hs5 a (by omega)).trans ((hs4' a (by omega)).trans ((hs3' a (by omega)).trans ((hs2 a (by omega)).trans (h.2.2.2.2 a ha)))) | (intro a ha; (try rw [wrM1 (by omega)]); (try rw [hs6 a (by omega)]); (try rw [hs5 a (by omega)]); (try rw [e5 a (by omega)]); (try rw [hs4 a (by omega)]); (try rw [e4 a (by omega)]); (try rw [hs3 a (by omega)]); (try rw [e3 a (by omega)]); (try rw [wrM1 (by omega)]); (try rw [hs2 a (by omega)]); (try rw [e2 a (by omega)]); (try rw [em2 a (Or.inr ha)]); (try rw [cs a (by omega) (by omega)]); (try rw [hs1 a (by omega)]); (try rw [hs a (by omega)]); (try rw [em a (Or.inr ha)]); exact h.2.2.2.2 a ha)), fun J2 => pre _ _ _ _ (t264_42 ?_)⟩
    simp (disch := omega) only [vpT, nI_leI, nI_ltI, nI_eq, nleT, nleF, nltT, nltF, neqT, neqF, nI_add, pk_mul, subN, divN, nI_clamp, mI1, wrH, wrM1, wrM2, wrowH, wrowM, bI0, bI1, kIi, kVi, kRi, kLi, kIx, kVx, Option.some.injEq, exists_eq_left', true_and, and_true, true_implies, false_implies, implies_true, not_true_eq_false, not_false_eq_true, true_or, or_true, false_or, or_false, forall_eq, iteT, iteF, LK_ hK, LM_ hK.m, LB_ hK.b, m4]
    exact f1 h same.rf rfl
  · simp (disch := omega) only [vpT, nI_leI, nI_ltI, nI_eq, nleT, nleF, nltT, nltF, neqT, neqF, nI_add, pk_mul, subN, divN, nI_clamp, mI1, wrH, wrM1, wrM2, wrowH, wrowM, bI0, bI1, kIi, kVi, kRi, kLi, kIx, kVx, Option.some.injEq, exists_eq_left', true_and, and_true, true_implies, false_implies, implies_true, not_true_eq_false, not_false_eq_true, true_or, or_true, false_or, or_false, forall_eq, iteT, iteF, LK_ hK, LM_ hK.m, LB_ hK.b, h8]
    refine sp_kp hK h (fun _ _ _ _ => rfl) fun I2 fi' s hC hs2 => t118_48 ?_
    have ho : ∀ a, x + 3 ≤ a → a ≤ x + 15 → I2 a = I a := fun a r1 r2 => hs2 a (by omega)
    have em2 : ∀ a, x + 271 ≤ a ∨ a < x → I2 a = I a := fun a ha => hs2 a (by have := hC.1; omega)
    simp (disch := omega) only [vpT, nI_leI, nI_ltI, nI_eq, nleT, nleF, nltT, nltF, neqT, neqF, nI_add, pk_mul, subN, divN, nI_clamp, mI1, wrH, wrM1, wrM2, wrowH, wrowM, bI0, bI1, kIi, kVi, kRi, kLi, kIx, kVx, Option.some.injEq, exists_eq_left', true_and, and_true, true_implies, false_implies, implies_true, not_true_eq_false, not_false_eq_true, true_or, or_true, false_or, or_false, forall_eq, iteT, iteF, LK_ hK, LM_ hK.m, LB_ hK.b]
    refine sp_addSpan (sn := sn) hK.b (by rw [ho _ (by omega) (by omega)]; exact h8) (by omega) (t118_60 ?_)
    simp (disch := omega) only [vpT, nI_leI, nI_ltI, nI_eq, nleT, nleF, nltT, nltF, neqT, neqF, nI_add, pk_mul, subN, divN, nI_clamp, mI1, wrH, wrM1, wrM2, wrowH, wrowM, bI0, bI1, kIi, kVi, kRi, kLi, kIx, kVx, Option.some.injEq, exists_eq_left', true_and, and_true, true_implies, false_implies, implies_true, not_true_eq_false, not_false_eq_true, true_or, or_true, false_or, or_false, forall_eq, iteT, iteF, LK_ hK, LM_ hK.m, LB_ hK.b]
    generalize hI3 : wr (wr (wr I2 (x + 1 + 2 + 8) sn (nI a)) (x + 1 + 2 + 9) sn p2) (x + 1 + 2) 8 (nI (sn + 1)) = I3
    have e3 : ∀ q, q ≠ x + 1 + 2 → q ≠ x + 1 + 2 + 8 → q ≠ x + 1 + 2 + 9 → I3 q = I2 q := fun q q1 q2 q3 => by rw [← hI3, wrM1 q1, wrM1 q3, wrM1 q2]
    have e30 : ∀ j, j ≠ 8 → I3 (x + 1 + 2) j = I (x + 1 + 2) j := fun j hj => by rw [← hI3, wrM2 hj, wrM1 (by omega), wrM1 (by omega), ho _ (by omega) (by omega)]
    have e308 : I3 (x + 1 + 2) 8 = nI (sn + 1) := by rw [← hI3]; exact wrH rfl rfl
    have e38 : ∀ j, I3 (x + 1 + 2 + 8) j = if j = sn then nI a else I (x + 1 + 2 + 8) j := fun j => by
      rw [← hI3, wrM1 (by omega), wrM1 (by omega)]
      split <;> rename_i q
      · exact wrH rfl q
      · rw [wrM2 q, ho _ (by omega) (by omega)]
    have e39 : ∀ j, I3 (x + 1 + 2 + 9) j = if j = sn then p2 else I (x + 1 + 2 + 9) j := fun j => by
      rw [← hI3, wrM1 (by omega)]
      split <;> rename_i q
      · exact wrH rfl q
      · rw [wrM2 q, wrM1 (by omega), ho _ (by omega) (by omega)]
    have eb : bd I3 (x + 1 + 2) = (I3 (x + 1 + 2), I (x + 1 + 2 + 1), I (x + 1 + 2 + 2), I (x + 1 + 2 + 3), I (x + 1 + 2 + 4), I (x + 1 + 2 + 5), I (x + 1 + 2 + 6), I (x + 1 + 2 + 7), I3 (x + 1 + 2 + 8), I3 (x + 1 + 2 + 9), I (x + 1 + 2 + 10), I (x + 1 + 2 + 11), I (x + 1 + 2 + 12)) := by
      simp (disch := omega) only [bd, e3, ho]
    have em : ∀ a, x + 271 ≤ a ∨ a < x → I3 a = I a := fun a ha => by rw [e3 a (by omega) (by omega) (by omega), em2 a ha]
    refine ⟨I3, J, rfl, (by first | exact h.2.2.2.2 | exact fun a ha => (em a (Or.inr ha)).trans (h.2.2.2.2 a ha) | exact fun a ha => (em2 a (Or.inr ha)).trans (h.2.2.2.2 a ha) | exact fun a ha => (hs a (by omega)).trans (h.2.2.2.2 a ha) | exact fun a ha => (wrM1 (by omega)).trans ((em a (Or.inr ha)).trans (h.2.2.2.2 a ha)) | exact fun a ha => (e3 a (by omega)).trans ((em a (Or.inr ha)).trans (h.2.2.2.2 a ha)) | exact fun a ha => (cs a (by omega) (by omega)).trans (h.2.2.2.2 a ha) | exact fun a ha => (hs2 a (by omega)).trans (h.2.2.2.2 a ha) | exact fun a ha => (e3 a (by omega) (by omega)).trans (h.2.2.2.2 a ha) | exact fun a ha => (e3 a (by omega) (by omega) (by omega) (by omega)).trans (h.2.2.2.2 a ha) | exact fun a ha => (hs5 a (by omega)).trans ((hs4' a (by omega)).trans ((hs3' a (by omega)).trans ((hs2 a (by omega)).trans (h.2.2.2.2 a ha)))) | (intro a ha; (try rw [wrM1 (by omega)]); (try rw [hs6 a (by omega)]); (try rw [hs5 a (by omega)]); (try rw [e5 a (by omega)]); (try rw [hs4 a (by omega)]); (try rw [e4 a (by omega)]); (try rw [hs3 a (by omega)]); (try rw [e3 a (by omega)]); (try rw [wrM1 (by omega)]); (try rw [hs2 a (by omega)]); (try rw [e2 a (by omega)]); (try rw [em2 a (Or.inr ha)]); (try rw [cs a (by omega) (by omega)]); (try rw [hs1 a (by omega)]); (try rw [hs a (by omega)]); (try rw [em a (Or.inr ha)]); exact h.2.2.2.2 a ha)), fun J2 => pre _ _ _ _ (t264_42 ?_)⟩
    simp (disch := omega) only [vpT, nI_leI, nI_ltI, nI_eq, nleT, nleF, nltT, nltF, neqT, neqF, nI_add, pk_mul, subN, divN, nI_clamp, mI1, wrH, wrM1, wrM2, wrowH, wrowM, bI0, bI1, kIi, kVi, kRi, kLi, kIx, kVx, Option.some.injEq, exists_eq_left', true_and, and_true, true_implies, false_implies, implies_true, not_true_eq_false, not_false_eq_true, true_or, or_true, false_or, or_false, forall_eq, iteT, iteF, LK_ hK, LM_ hK.m, LB_ hK.b, em, m4]
    refine mp_kp hK h (by rw [wrM2 (by omega), em _ (by omega)]) (by rw [wrM1 (by omega), em _ (by omega)]) (by rw [wrM1 (by omega), em _ (by omega)]) fun I6 hs6 hf6 hP6 => t264_63 ?_
    have r6 : I6 (x + 271 + 1) = I (x + 271 + 1) := by rw [hs6 _ (by omega), wrM1 (by omega), em _ (by omega)]
    simp (disch := omega) only [vpT, nI_leI, nI_ltI, nI_eq, nleT, nleF, nltT, nltF, neqT, neqF, nI_add, pk_mul, subN, divN, nI_clamp, mI1, wrH, wrM1, wrM2, wrowH, wrowM, bI0, bI1, kIi, kVi, kRi, kLi, kIx, kVx, Option.some.injEq, exists_eq_left', true_and, and_true, true_implies, false_implies, implies_true, not_true_eq_false, not_false_eq_true, true_or, or_true, false_or, or_false, forall_eq, iteT, iteF, LK_ hK, LM_ hK.m, LB_ hK.b, r6, m4]
    refine fb (n' := n) (sn' := sn + 1) (dn' := dn) h (hC.fr fun a r1 r2 => e3 a (by omega) (by omega) (by omega)) (fun a ha => by rw [e3 a (by omega) (by omega) (by omega), hs2 a (by omega)]) (fun a ha => by rw [wrM1 (by omega), wrM1 (by omega), wrM1 (by omega), hs6 a (by omega), wrM1 (by omega)]) (hP6.fr (by simp (disch := omega) only [vpT, nI_leI, nI_ltI, nI_eq, nleT, nleF, nltT, nltF, neqT, neqF, nI_add, pk_mul, subN, divN, nI_clamp, mI1, wrH, wrM1, wrM2, wrowH, wrowM, bI0, bI1, kIi, kVi, kRi, kLi, kIx, kVx, Option.some.injEq, exists_eq_left', true_and, and_true, true_implies, false_implies, implies_true, not_true_eq_false, not_false_eq_true, true_or, or_true, false_or, or_false, forall_eq, iteT, iteF, LK_ hK, LM_ hK.m, LB_ hK.b]) (by simp (disch := omega) only [vpT, nI_leI, nI_ltI, nI_eq, nleT, nleF, nltT, nltF, neqT, neqF, nI_add, pk_mul, subN, divN, nI_clamp, mI1, wrH, wrM1, wrM2, wrowH, wrowM, bI0, bI1, kIi, kVi, kRi, kLi, kIx, kVx, Option.some.injEq, exists_eq_left', true_and, and_true, true_implies, false_implies, implies_true, not_true_eq_false, not_false_eq_true, true_or, or_true, false_or, or_false, forall_eq, iteT, iteF, LK_ hK, LM_ hK.m, LB_ hK.b])) (fun j hj => by rw [wrM1 (by omega), wrM1 (by omega), wrM1 (by omega), hf6 j (by omega), wrM2 (by omega)]) (by rw [wrM1 (by omega), wrM1 (by omega), wrM1 (by omega), hf6 0 (by omega)]; exact wrH rfl rfl) ?_ ?_
    · rw [eb]
      refine VL.sp (S := bd I (x + 1 + 2)) h.1.1 e30 e308 (by omega) fun k hk => ?_
      rw [e39]
      split
      · have := Int32.le_iff_toInt_le.mp q4
        rw [nIi (by decide)] at this
        exact this
      · exact h.v.2.2.1.2.2.2.1 k (by omega)
    · rw [eb]
      refine Rel.sp (S := bd I (x + 1 + 2)) h.r hn hd20 e30 (by omega) (wrH rfl rfl) (fun k hk => ?_) (fun j j1 j2 j3 => by rw [wrM2 (by omega), wrM2 (by omega), wrM2 (by omega), r6])
      rw [e38, e39]
      by_cases ek : k = sn
      · rw [if_pos ek, if_pos ek]
        refine ⟨?_, ?_⟩
        · rw [wrM2 (by omega), wrM2 (by omega)]; exact wrH rfl (by omega)
        · rw [wrM2 (by omega)]; exact wrH rfl (by omega)
      · rw [if_neg ek, if_neg ek, wrM2 (by omega), wrM2 (by omega), wrM2 (by omega), wrM2 (by omega), wrM2 (by omega), wrM2 (by omega), r6]
        exact h.r.2.2.2.1 k (by omega)
theorem P_open {p1 : Int32} (hK : LK L x) (h : SX I0 I x n sn dn ac fi tp sd) : PR I0 L x 120 265 1 9 d e [.int p1] I J z l ex := by
  have hn := h.n10
  have hs4 := h.i.2.1.2
  have hd20 := h.i.2.2.1.2
  have h8 : I (x + 1 + 2) 8 = nI sn := h.i.2.1.1
  have m4 : I (x + 271 + 1) 4 = nI sn := h.r.1.2.2.2.2.1
  refine e120 (t120_0 ?_)
  simp (disch := omega) only [vpT, nI_leI, nI_ltI, nI_eq, nleT, nleF, nltT, nltF, neqT, neqF, nI_add, pk_mul, subN, divN, nI_clamp, mI1, wrH, wrM1, wrM2, wrowH, wrowM, bI0, bI1, kIi, kVi, kRi, kLi, kIx, kVx, Option.some.injEq, exists_eq_left', true_and, and_true, true_implies, false_implies, implies_true, not_true_eq_false, not_false_eq_true, true_or, or_true, false_or, or_false, forall_eq, iteT, iteF, LK_ hK, LM_ hK.m, LB_ hK.b, h8]
  refine sp_checkElement (fun q => Or.inl ⟨rfl, (by unfold NE9; decide), I, J, rfl, (by first | exact h.2.2.2.2 | exact fun a ha => (em a (Or.inr ha)).trans (h.2.2.2.2 a ha) | exact fun a ha => (em2 a (Or.inr ha)).trans (h.2.2.2.2 a ha) | exact fun a ha => (hs a (by omega)).trans (h.2.2.2.2 a ha) | exact fun a ha => (wrM1 (by omega)).trans ((em a (Or.inr ha)).trans (h.2.2.2.2 a ha)) | exact fun a ha => (e3 a (by omega)).trans ((em a (Or.inr ha)).trans (h.2.2.2.2 a ha)) | exact fun a ha => (cs a (by omega) (by omega)).trans (h.2.2.2.2 a ha) | exact fun a ha => (hs2 a (by omega)).trans (h.2.2.2.2 a ha) | exact fun a ha => (e3 a (by omega) (by omega)).trans (h.2.2.2.2 a ha) | exact fun a ha => (e3 a (by omega) (by omega) (by omega) (by omega)).trans (h.2.2.2.2 a ha) | exact fun a ha => (hs5 a (by omega)).trans ((hs4' a (by omega)).trans ((hs3' a (by omega)).trans ((hs2 a (by omega)).trans (h.2.2.2.2 a ha)))) | (intro a ha; (try rw [wrM1 (by omega)]); (try rw [hs6 a (by omega)]); (try rw [hs5 a (by omega)]); (try rw [e5 a (by omega)]); (try rw [hs4 a (by omega)]); (try rw [e4 a (by omega)]); (try rw [hs3 a (by omega)]); (try rw [e3 a (by omega)]); (try rw [wrM1 (by omega)]); (try rw [hs2 a (by omega)]); (try rw [e2 a (by omega)]); (try rw [em2 a (Or.inr ha)]); (try rw [cs a (by omega) (by omega)]); (try rw [hs1 a (by omega)]); (try rw [hs a (by omega)]); (try rw [em a (Or.inr ha)]); exact h.2.2.2.2 a ha)), fun J2 => e265 (t265_0 ?_)⟩) (fun q1 q2 => t120_14 ?_)
  · simp (disch := omega) only [vpT, nI_leI, nI_ltI, nI_eq, nleT, nleF, nltT, nltF, neqT, neqF, nI_add, pk_mul, subN, divN, nI_clamp, mI1, wrH, wrM1, wrM2, wrowH, wrowM, bI0, bI1, kIi, kVi, kRi, kLi, kIx, kVx, Option.some.injEq, exists_eq_left', true_and, and_true, true_implies, false_implies, implies_true, not_true_eq_false, not_false_eq_true, true_or, or_true, false_or, or_false, forall_eq, iteT, iteF, LK_ hK, LM_ hK.m, LB_ hK.b, m4]
    refine mp_elF (by omega) q (t265_21 ?_)
    simp (disch := omega) only [vpT, nI_leI, nI_ltI, nI_eq, nleT, nleF, nltT, nltF, neqT, neqF, nI_add, pk_mul, subN, divN, nI_clamp, mI1, wrH, wrM1, wrM2, wrowH, wrowM, bI0, bI1, kIi, kVi, kRi, kLi, kIx, kVx, Option.some.injEq, exists_eq_left', true_and, and_true, true_implies, false_implies, implies_true, not_true_eq_false, not_false_eq_true, true_or, or_true, false_or, or_false, forall_eq, iteT, iteF, LK_ hK, LM_ hK.m, LB_ hK.b]
    refine mp_rightF hK.m (wrH rfl rfl) (by decide) (by decide) (t265_25 ?_)
    simp (disch := omega) only [vpT, nI_leI, nI_ltI, nI_eq, nleT, nleF, nltT, nltF, neqT, neqF, nI_add, pk_mul, subN, divN, nI_clamp, mI1, wrH, wrM1, wrM2, wrowH, wrowM, bI0, bI1, kIi, kVi, kRi, kLi, kIx, kVx, Option.some.injEq, exists_eq_left', true_and, and_true, true_implies, false_implies, implies_true, not_true_eq_false, not_false_eq_true, true_or, or_true, false_or, or_false, forall_eq, iteT, iteF, LK_ hK, LM_ hK.m, LB_ hK.b]
    exact ff h same.rf rfl
  obtain ⟨a, ha, rfl⟩ := i_lt (by omega) q1 q2
  simp (disch := omega) only [vpT, nI_leI, nI_ltI, nI_eq, nleT, nleF, nltT, nltF, neqT, neqF, nI_add, pk_mul, subN, divN, nI_clamp, mI1, wrH, wrM1, wrM2, wrowH, wrowM, bI0, bI1, kIi, kVi, kRi, kLi, kIx, kVx, Option.some.injEq, exists_eq_left', true_and, and_true, true_implies, false_implies, implies_true, not_true_eq_false, not_false_eq_true, true_or, or_true, false_or, or_false, forall_eq, iteT, iteF, LK_ hK, LM_ hK.m, LB_ hK.b]
  refine sp_kp hK h (fun _ _ _ _ => rfl) fun I2 fi' s hC hs2 => t120_28 ?_
  have ho : ∀ a, x + 3 ≤ a → a ≤ x + 15 → I2 a = I a := fun a r1 r2 => hs2 a (by omega)
  have em2 : ∀ a, x + 271 ≤ a ∨ a < x → I2 a = I a := fun a ha => hs2 a (by have := hC.1; omega)
  simp (disch := omega) only [vpT, nI_leI, nI_ltI, nI_eq, nleT, nleF, nltT, nltF, neqT, neqF, nI_add, pk_mul, subN, divN, nI_clamp, mI1, wrH, wrM1, wrM2, wrowH, wrowM, bI0, bI1, kIi, kVi, kRi, kLi, kIx, kVx, Option.some.injEq, exists_eq_left', true_and, and_true, true_implies, false_implies, implies_true, not_true_eq_false, not_false_eq_true, true_or, or_true, false_or, or_false, forall_eq, iteT, iteF, LK_ hK, LM_ hK.m, LB_ hK.b]
  refine sp_removeSpan (sn := sn) hK.b (by rw [ho _ (by omega) (by omega)]; exact h8) ha hs4 (t120_39 ?_)
  simp (disch := omega) only [vpT, nI_leI, nI_ltI, nI_eq, nleT, nleF, nltT, nltF, neqT, neqF, nI_add, pk_mul, subN, divN, nI_clamp, mI1, wrH, wrM1, wrM2, wrowH, wrowM, bI0, bI1, kIi, kVi, kRi, kLi, kIx, kVx, Option.some.injEq, exists_eq_left', true_and, and_true, true_implies, false_implies, implies_true, not_true_eq_false, not_false_eq_true, true_or, or_true, false_or, or_false, forall_eq, iteT, iteF, LK_ hK, LM_ hK.m, LB_ hK.b]
  generalize hI3 : wr (wrow (wrow I2 (x + 1 + 2 + 8) (rem1 (I2 (x + 1 + 2 + 8)) a sn)) (x + 1 + 2 + 9) (rem1 (I2 (x + 1 + 2 + 9)) a sn)) (x + 1 + 2) 8 (nI (sn - 1)) = I3
  have e3 : ∀ q, q ≠ x + 1 + 2 → q ≠ x + 1 + 2 + 8 → q ≠ x + 1 + 2 + 9 → I3 q = I2 q := fun q q1 q2 q3 => by rw [← hI3, wrM1 q1, wrowM q3, wrowM q2]
  have e30 : ∀ j, j ≠ 8 → I3 (x + 1 + 2) j = I (x + 1 + 2) j := fun j hj => by rw [← hI3, wrM2 hj, wrowM (by omega), wrowM (by omega), ho _ (by omega) (by omega)]
  have e308 : I3 (x + 1 + 2) 8 = nI (sn - 1) := by rw [← hI3]; exact wrH rfl rfl
  have e38 : ∀ j, j < sn - 1 → I3 (x + 1 + 2 + 8) j = I (x + 1 + 2 + 8) (sk a j) := fun j hj => by
    rw [← hI3, wrM1 (by omega), wrowM (by omega), wrowH rfl, rem1_sk hj, ho _ (by omega) (by omega)]
  have e39 : ∀ j, j < sn - 1 → I3 (x + 1 + 2 + 9) j = I (x + 1 + 2 + 9) (sk a j) := fun j hj => by
    rw [← hI3, wrM1 (by omega), wrowH rfl, rem1_sk hj, ho _ (by omega) (by omega)]
  have eb : bd I3 (x + 1 + 2) = (I3 (x + 1 + 2), I (x + 1 + 2 + 1), I (x + 1 + 2 + 2), I (x + 1 + 2 + 3), I (x + 1 + 2 + 4), I (x + 1 + 2 + 5), I (x + 1 + 2 + 6), I (x + 1 + 2 + 7), I3 (x + 1 + 2 + 8), I3 (x + 1 + 2 + 9), I (x + 1 + 2 + 10), I (x + 1 + 2 + 11), I (x + 1 + 2 + 12)) := by
    simp (disch := omega) only [bd, e3, ho]
  have em : ∀ a, x + 271 ≤ a ∨ a < x → I3 a = I a := fun a ha => by rw [e3 a (by omega) (by omega) (by omega), em2 a ha]
  refine ⟨I3, J, rfl, (by first | exact h.2.2.2.2 | exact fun a ha => (em a (Or.inr ha)).trans (h.2.2.2.2 a ha) | exact fun a ha => (em2 a (Or.inr ha)).trans (h.2.2.2.2 a ha) | exact fun a ha => (hs a (by omega)).trans (h.2.2.2.2 a ha) | exact fun a ha => (wrM1 (by omega)).trans ((em a (Or.inr ha)).trans (h.2.2.2.2 a ha)) | exact fun a ha => (e3 a (by omega)).trans ((em a (Or.inr ha)).trans (h.2.2.2.2 a ha)) | exact fun a ha => (cs a (by omega) (by omega)).trans (h.2.2.2.2 a ha) | exact fun a ha => (hs2 a (by omega)).trans (h.2.2.2.2 a ha) | exact fun a ha => (e3 a (by omega) (by omega)).trans (h.2.2.2.2 a ha) | exact fun a ha => (e3 a (by omega) (by omega) (by omega) (by omega)).trans (h.2.2.2.2 a ha) | exact fun a ha => (hs5 a (by omega)).trans ((hs4' a (by omega)).trans ((hs3' a (by omega)).trans ((hs2 a (by omega)).trans (h.2.2.2.2 a ha)))) | (intro a ha; (try rw [wrM1 (by omega)]); (try rw [hs6 a (by omega)]); (try rw [hs5 a (by omega)]); (try rw [e5 a (by omega)]); (try rw [hs4 a (by omega)]); (try rw [e4 a (by omega)]); (try rw [hs3 a (by omega)]); (try rw [e3 a (by omega)]); (try rw [wrM1 (by omega)]); (try rw [hs2 a (by omega)]); (try rw [e2 a (by omega)]); (try rw [em2 a (Or.inr ha)]); (try rw [cs a (by omega) (by omega)]); (try rw [hs1 a (by omega)]); (try rw [hs a (by omega)]); (try rw [em a (Or.inr ha)]); exact h.2.2.2.2 a ha)), fun J2 => e265 (t265_0 ?_)⟩
  simp (disch := omega) only [vpT, nI_leI, nI_ltI, nI_eq, nleT, nleF, nltT, nltF, neqT, neqF, nI_add, pk_mul, subN, divN, nI_clamp, mI1, wrH, wrM1, wrM2, wrowH, wrowM, bI0, bI1, kIi, kVi, kRi, kLi, kIx, kVx, Option.some.injEq, exists_eq_left', true_and, and_true, true_implies, false_implies, implies_true, not_true_eq_false, not_false_eq_true, true_or, or_true, false_or, or_false, forall_eq, iteT, iteF, LK_ hK, LM_ hK.m, LB_ hK.b, em, m4]
  refine mp_elN ha (by omega) (t265_21 ?_)
  simp (disch := omega) only [vpT, nI_leI, nI_ltI, nI_eq, nleT, nleF, nltT, nltF, neqT, neqF, nI_add, pk_mul, subN, divN, nI_clamp, mI1, wrH, wrM1, wrM2, wrowH, wrowM, bI0, bI1, kIi, kVi, kRi, kLi, kIx, kVx, Option.some.injEq, exists_eq_left', true_and, and_true, true_implies, false_implies, implies_true, not_true_eq_false, not_false_eq_true, true_or, or_true, false_or, or_false, forall_eq, iteT, iteF, LK_ hK, LM_ hK.m, LB_ hK.b]
  refine mp_rightT hK.m (wrH rfl rfl) (t265_25 ?_)
  simp (disch := omega) only [vpT, nI_leI, nI_ltI, nI_eq, nleT, nleF, nltT, nltF, neqT, neqF, nI_add, pk_mul, subN, divN, nI_clamp, mI1, wrH, wrM1, wrM2, wrowH, wrowM, bI0, bI1, kIi, kVi, kRi, kLi, kIx, kVx, Option.some.injEq, exists_eq_left', true_and, and_true, true_implies, false_implies, implies_true, not_true_eq_false, not_false_eq_true, true_or, or_true, false_or, or_false, forall_eq, iteT, iteF, LK_ hK, LM_ hK.m, LB_ hK.b]
  refine mp_kp hK h (by rw [wrM2 (by omega), em _ (by omega)]) (by rw [wrM1 (by omega), em _ (by omega)]) (by rw [wrM1 (by omega), em _ (by omega)]) fun I6 hs6 hf6 hP6 => t265_34 ?_
  have r6 : I6 (x + 271 + 1) = I (x + 271 + 1) := by rw [hs6 _ (by omega), wrM1 (by omega), em _ (by omega)]
  simp (disch := omega) only [vpT, nI_leI, nI_ltI, nI_eq, nleT, nleF, nltT, nltF, neqT, neqF, nI_add, pk_mul, subN, divN, nI_clamp, mI1, wrH, wrM1, wrM2, wrowH, wrowM, bI0, bI1, kIi, kVi, kRi, kLi, kIx, kVx, Option.some.injEq, exists_eq_left', true_and, and_true, true_implies, false_implies, implies_true, not_true_eq_false, not_false_eq_true, true_or, or_true, false_or, or_false, forall_eq, iteT, iteF, LK_ hK, LM_ hK.m, LB_ hK.b, r6, m4]
  refine lg (n := 2 * (sn - 1 - a)) (fun i lv h => ∃ I7, lv = [some (.ref (x + 271)), some (.int (nI a)), some (.int (nI (120 + 2 * a + i)))] ∧ h = (L, I7, J2, z, l, ex) ∧ same I6 I7 (fun a => a = x + 271 + 1) ∧ I7 (x + 271 + 1) 4 = nI (sn - 1) ∧ (∀ j, 120 + 2 * a ≤ j → j < 120 + 2 * a + i → I7 (x + 271 + 1) j = I (x + 271 + 1) (j + 2)) ∧ ∀ j, j ≠ 4 → j < 120 + 2 * a ∨ 120 + 2 * a + i ≤ j → I7 (x + 271 + 1) j = I (x + 271 + 1) j) ?_ ?_ (Nat.zero_le _) _ _ ⟨_, rfl, rfl, fun a ha => wrM1 ha, wrH rfl rfl, fun j _ _ => by omega, fun j j1 _ => by rw [wrM2 j1, r6]⟩
  · rintro i hi ih _ _ ⟨I7, rfl, rfl, hs7, f4, k1, k2⟩
    have e2 : I7 (x + 271 + 1) (120 + 2 * a + i + 2) = I (x + 271 + 1) (120 + 2 * a + i + 2) := k2 _ (by omega) (by omega)
    refine t265_51 ?_
    simp (disch := omega) only [vpT, nI_leI, nI_ltI, nI_eq, nleT, nleF, nltT, nltF, neqT, neqF, nI_add, pk_mul, subN, divN, nI_clamp, mI1, wrH, wrM1, wrM2, wrowH, wrowM, bI0, bI1, kIi, kVi, kRi, kLi, kIx, kVx, Option.some.injEq, exists_eq_left', true_and, and_true, true_implies, false_implies, implies_true, not_true_eq_false, not_false_eq_true, true_or, or_true, false_or, or_false, forall_eq, iteT, iteF, LK_ hK, LM_ hK.m, LB_ hK.b, f4, e2]
    refine ih _ _ ⟨_, by simp only [Nat.add_assoc], rfl, fun a ha => by rw [wrM1 ha]; exact hs7 a ha, by rw [wrM2 (by omega)]; exact f4, fun j j1 j2 => ?_, fun j j1 j2 => by rw [wrM2 (by omega)]; exact k2 j j1 (by omega)⟩
    by_cases q : j = 120 + 2 * a + i
    · rw [wrH rfl q, q]
    · rw [wrM2 q]; exact k1 j j1 (by omega)
  · rintro _ _ ⟨I7, rfl, rfl, hs7, f4, k1, k2⟩
    refine t265_51 ?_
    simp (disch := omega) only [vpT, nI_leI, nI_ltI, nI_eq, nleT, nleF, nltT, nltF, neqT, neqF, nI_add, pk_mul, subN, divN, nI_clamp, mI1, wrH, wrM1, wrM2, wrowH, wrowM, bI0, bI1, kIi, kVi, kRi, kLi, kIx, kVx, Option.some.injEq, exists_eq_left', true_and, and_true, true_implies, false_implies, implies_true, not_true_eq_false, not_false_eq_true, true_or, or_true, false_or, or_false, forall_eq, iteT, iteF, LK_ hK, LM_ hK.m, LB_ hK.b, f4]
    refine fb (n' := n) (sn' := sn - 1) (dn' := dn) h (hC.fr fun a r1 r2 => e3 a (by omega) (by omega) (by omega)) (fun a ha => by rw [e3 a (by omega) (by omega) (by omega), hs2 a (by omega)]) (fun a ha => by rw [hs7 a (by omega), hs6 a (by omega), wrM1 (by omega)]) (hP6.fr (by rw [hs7 _ (by omega)]) (by rw [hs7 _ (by omega)])) (fun j hj => by rw [hs7 _ (by omega), hf6 j (by omega), wrM2 (by omega)]) (by rw [hs7 _ (by omega), hf6 0 (by omega)]; exact wrH rfl rfl) ?_ ?_
    · rw [eb]
      refine VL.sp (S := bd I (x + 1 + 2)) h.1.1 e30 e308 (by omega) fun k hk => ?_
      rw [e39 k hk]
      exact h.v.2.2.1.2.2.2.1 _ (sk_lt hk)
    · rw [eb]
      refine Rel.sp (S := bd I (x + 1 + 2)) h.r hn hd20 e30 (by omega) f4 (fun k hk => ?_) (fun j j1 j2 j3 => k2 j j3 (by omega))
      rw [e38 k hk, e39 k hk]
      have := h.r.2.2.2.1 (sk a k) (sk_lt hk)
      by_cases q : k < a
      · rw [show sk a k = k from if_pos q] at this ⊢
        rw [k2 _ (by omega) (by omega), k2 _ (by omega) (by omega)]
        exact this
      · rw [show sk a k = k + 1 from if_neg q] at this ⊢
        rw [k1 _ (by omega) (by omega), k1 _ (by omega) (by omega)]
        exact this
end CALLS7
