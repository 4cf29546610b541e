/-! The law's calls: more acts. -/
section CALLS3
variable {I0 I I2 I3 I5 : Nat → Nat → Int32} {J J2 : Nat → Nat → Int64} {L : hL} {x n sn dn ac fi tp sd c : Nat} {t : tl} {F : Int32 → hp → Prop} {G : hp → Prop} {X : Nat → hp → Prop} {d e z l : Nat} {ex : Bool}
--facts LK_ hK, LM_ hK.m, LB_ hK.b
theorem P_part {p1 p2 p3 : Int32} (hK : LK L x) (h : SX I0 I x n sn dn ac fi tp sd) : PR I0 L x 112 227 1 0 d e [.int p1, .int p2, .int p3] I J z l ex := by
  have hn := h.n10
  have hs4 := h.i.2.1.2
  have hd20 := h.i.2.2.1.2
  refine e112 (t112_0 ?_)
  refine sp_checkElement (fun q => Or.inl ⟨rfl, I, J, rfl, fun J2 => e227 (t227_0 ?_)⟩) (fun q1 q2 => t112_6 ?_)
  · simp (disch := omega) only [vpT, nI_leI, nI_ltI, nI_eq, nleT, nleF, nltT, nltF, neqT, neqF, nI_add, pk_mul, subN, divN, nI_clamp, mI1, wrH, wrM1, wrM2, wrowH, wrowM, bI0, bI1, kIi, kVi, kRi, kLi, kIx, kVx, Option.some.injEq, exists_eq_left', true_and, and_true, true_implies, false_implies, implies_true, not_true_eq_false, not_false_eq_true, true_or, or_true, false_or, or_false, forall_eq, iteT, iteF, LK_ hK, LM_ hK.m, LB_ hK.b]
    refine mp_isSortF q (t227_10 ?_)
    simp (disch := omega) only [vpT, nI_leI, nI_ltI, nI_eq, nleT, nleF, nltT, nltF, neqT, neqF, nI_add, pk_mul, subN, divN, nI_clamp, mI1, wrH, wrM1, wrM2, wrowH, wrowM, bI0, bI1, kIi, kVi, kRi, kLi, kIx, kVx, Option.some.injEq, exists_eq_left', true_and, and_true, true_implies, false_implies, implies_true, not_true_eq_false, not_false_eq_true, true_or, or_true, false_or, or_false, forall_eq, iteT, iteF, LK_ hK, LM_ hK.m, LB_ hK.b]
    refine mp_rightF hK.m (wrH rfl rfl) (by decide) (by decide) (t227_29 ?_)
    simp (disch := omega) only [vpT, nI_leI, nI_ltI, nI_eq, nleT, nleF, nltT, nltF, neqT, neqF, nI_add, pk_mul, subN, divN, nI_clamp, mI1, wrH, wrM1, wrM2, wrowH, wrowM, bI0, bI1, kIi, kVi, kRi, kLi, kIx, kVx, Option.some.injEq, exists_eq_left', true_and, and_true, true_implies, false_implies, implies_true, not_true_eq_false, not_false_eq_true, true_or, or_true, false_or, or_false, forall_eq, iteT, iteF, LK_ hK, LM_ hK.m, LB_ hK.b]
    exact ff h same.rf rfl
  refine sp_checkElement (fun q => Or.inl ⟨rfl, I, J, rfl, fun J2 => e227 (t227_0 ?_)⟩) (fun q3 q4 => t112_12 ?_)
  · simp (disch := omega) only [vpT, nI_leI, nI_ltI, nI_eq, nleT, nleF, nltT, nltF, neqT, neqF, nI_add, pk_mul, subN, divN, nI_clamp, mI1, wrH, wrM1, wrM2, wrowH, wrowM, bI0, bI1, kIi, kVi, kRi, kLi, kIx, kVx, Option.some.injEq, exists_eq_left', true_and, and_true, true_implies, false_implies, implies_true, not_true_eq_false, not_false_eq_true, true_or, or_true, false_or, or_false, forall_eq, iteT, iteF, LK_ hK, LM_ hK.m, LB_ hK.b]
    refine mp_isSortT ⟨q1, q2⟩ (t227_10 ?_)
    simp (disch := omega) only [vpT, nI_leI, nI_ltI, nI_eq, nleT, nleF, nltT, nltF, neqT, neqF, nI_add, pk_mul, subN, divN, nI_clamp, mI1, wrH, wrM1, wrM2, wrowH, wrowM, bI0, bI1, kIi, kVi, kRi, kLi, kIx, kVx, Option.some.injEq, exists_eq_left', true_and, and_true, true_implies, false_implies, implies_true, not_true_eq_false, not_false_eq_true, true_or, or_true, false_or, or_false, forall_eq, iteT, iteF, LK_ hK, LM_ hK.m, LB_ hK.b]
    refine mp_isSortF q (t227_17 ?_)
    simp (disch := omega) only [vpT, nI_leI, nI_ltI, nI_eq, nleT, nleF, nltT, nltF, neqT, neqF, nI_add, pk_mul, subN, divN, nI_clamp, mI1, wrH, wrM1, wrM2, wrowH, wrowM, bI0, bI1, kIi, kVi, kRi, kLi, kIx, kVx, Option.some.injEq, exists_eq_left', true_and, and_true, true_implies, false_implies, implies_true, not_true_eq_false, not_false_eq_true, true_or, or_true, false_or, or_false, forall_eq, iteT, iteF, LK_ hK, LM_ hK.m, LB_ hK.b]
    refine mp_rightF hK.m (wrH rfl rfl) (by decide) (by decide) (t227_29 ?_)
    simp (disch := omega) only [vpT, nI_leI, nI_ltI, nI_eq, nleT, nleF, nltT, nltF, neqT, neqF, nI_add, pk_mul, subN, divN, nI_clamp, mI1, wrH, wrM1, wrM2, wrowH, wrowM, bI0, bI1, kIi, kVi, kRi, kLi, kIx, kVx, Option.some.injEq, exists_eq_left', true_and, and_true, true_implies, false_implies, implies_true, not_true_eq_false, not_false_eq_true, true_or, or_true, false_or, or_false, forall_eq, iteT, iteF, LK_ hK, LM_ hK.m, LB_ hK.b]
    exact ff h same.rf rfl
  have pre : ∀ I3 J2 t F, Wp (cal (e + 39)) kc_227 [] F (29, [some (.ref (x + 271)), some (.int p1), some (.int p2), some (.int p3), none], [.int (nI 1)], (L, wr I3 (x + 271) 0 (nI 0), J2, t)) → cal (e + 40) 227 [.ref (x + 271), .int p1, .int p2, .int p3] (L, I3, J2, t) F := by
    intro I3 J2 t F kk
    refine e227 (t227_0 ?_)
    simp (disch := omega) only [vpT, nI_leI, nI_ltI, nI_eq, nleT, nleF, nltT, nltF, neqT, neqF, nI_add, pk_mul, subN, divN, nI_clamp, mI1, wrH, wrM1, wrM2, wrowH, wrowM, bI0, bI1, kIi, kVi, kRi, kLi, kIx, kVx, Option.some.injEq, exists_eq_left', true_and, and_true, true_implies, false_implies, implies_true, not_true_eq_false, not_false_eq_true, true_or, or_true, false_or, or_false, forall_eq, iteT, iteF, LK_ hK, LM_ hK.m, LB_ hK.b]
    refine mp_isSortT ⟨q1, q2⟩ (t227_10 ?_)
    simp (disch := omega) only [vpT, nI_leI, nI_ltI, nI_eq, nleT, nleF, nltT, nltF, neqT, neqF, nI_add, pk_mul, subN, divN, nI_clamp, mI1, wrH, wrM1, wrM2, wrowH, wrowM, bI0, bI1, kIi, kVi, kRi, kLi, kIx, kVx, Option.some.injEq, exists_eq_left', true_and, and_true, true_implies, false_implies, implies_true, not_true_eq_false, not_false_eq_true, true_or, or_true, false_or, or_false, forall_eq, iteT, iteF, LK_ hK, LM_ hK.m, LB_ hK.b]
    refine mp_isSortT ⟨q3, q4⟩ (t227_17 ?_)
    simp (disch := omega) only [vpT, nI_leI, nI_ltI, nI_eq, nleT, nleF, nltT, nltF, neqT, neqF, nI_add, pk_mul, subN, divN, nI_clamp, mI1, wrH, wrM1, wrM2, wrowH, wrowM, bI0, bI1, kIi, kVi, kRi, kLi, kIx, kVx, Option.some.injEq, exists_eq_left', true_and, and_true, true_implies, false_implies, implies_true, not_true_eq_false, not_false_eq_true, true_or, or_true, false_or, or_false, forall_eq, iteT, iteF, LK_ hK, LM_ hK.m, LB_ hK.b]
    exact mp_rightT hK.m (wrH rfl rfl) kk
  refine sp_checkArgument (fun q => Or.inr ⟨rfl, I, J, rfl, fun J2 => pre _ _ _ _ (t227_29 ?_)⟩) (fun q5 q6 => t112_19 ?_)
  · simp (disch := omega) only [vpT, nI_leI, nI_ltI, nI_eq, nleT, nleF, nltT, nltF, neqT, neqF, nI_add, pk_mul, subN, divN, nI_clamp, mI1, wrH, wrM1, wrM2, wrowH, wrowM, bI0, bI1, kIi, kVi, kRi, kLi, kIx, kVx, Option.some.injEq, exists_eq_left', true_and, and_true, true_implies, false_implies, implies_true, not_true_eq_false, not_false_eq_true, true_or, or_true, false_or, or_false, forall_eq, iteT, iteF, LK_ hK, LM_ hK.m, LB_ hK.b]
    refine mp_inF (lo := nI 0) (hi := nI 99) rfl rfl q (t227_42 ?_)
    simp (disch := omega) only [vpT, nI_leI, nI_ltI, nI_eq, nleT, nleF, nltT, nltF, neqT, neqF, nI_add, pk_mul, subN, divN, nI_clamp, mI1, wrH, wrM1, wrM2, wrowH, wrowM, bI0, bI1, kIi, kVi, kRi, kLi, kIx, kVx, Option.some.injEq, exists_eq_left', true_and, and_true, true_implies, false_implies, implies_true, not_true_eq_false, not_false_eq_true, true_or, or_true, false_or, or_false, forall_eq, iteT, iteF, LK_ hK, LM_ hK.m, LB_ hK.b]
    refine mp_rightF hK.m (wrH rfl rfl) (by decide) (by decide) (t227_46 ?_)
    simp (disch := omega) only [vpT, nI_leI, nI_ltI, nI_eq, nleT, nleF, nltT, nltF, neqT, neqF, nI_add, pk_mul, subN, divN, nI_clamp, mI1, wrH, wrM1, wrM2, wrowH, wrowM, bI0, bI1, kIi, kVi, kRi, kLi, kIx, kVx, Option.some.injEq, exists_eq_left', true_and, and_true, true_implies, false_implies, implies_true, not_true_eq_false, not_false_eq_true, true_or, or_true, false_or, or_false, forall_eq, iteT, iteF, LK_ hK, LM_ hK.m, LB_ hK.b]
    exact ff h same.rf rfl
  obtain ⟨a, ha, rfl⟩ := i_lt (by omega) q1 q2
  obtain ⟨b, hb, rfl⟩ := i_lt (by omega) q3 q4
  obtain ⟨v, hv, rfl⟩ := i_le (by omega) q5 q6
  simp (disch := omega) only [vpT, nI_leI, nI_ltI, nI_eq, nleT, nleF, nltT, nltF, neqT, neqF, nI_add, pk_mul, subN, divN, nI_clamp, mI1, wrH, wrM1, wrM2, wrowH, wrowM, bI0, bI1, kIi, kVi, kRi, kLi, kIx, kVx, Option.some.injEq, exists_eq_left', true_and, and_true, true_implies, false_implies, implies_true, not_true_eq_false, not_false_eq_true, true_or, or_true, false_or, or_false, forall_eq, iteT, iteF, LK_ hK, LM_ hK.m, LB_ hK.b]
  refine sp_cell (N := 64) hK h (LB_ hK.b).2.2.1.2.2.2.2.2.2.1 (LB_ hK.b).2.2.2.2.2.2.2.2.2.1 (by omega) (by decide) (by omega) (by omega) fun I2 fi' s hC hs2 => t112_40 ?_
  simp (disch := omega) only [vpT, nI_leI, nI_ltI, nI_eq, nleT, nleF, nltT, nltF, neqT, neqF, nI_add, pk_mul, subN, divN, nI_clamp, mI1, wrH, wrM1, wrM2, wrowH, wrowM, bI0, bI1, kIi, kVi, kRi, kLi, kIx, kVx, Option.some.injEq, exists_eq_left', true_and, and_true, true_implies, false_implies, implies_true, not_true_eq_false, not_false_eq_true, true_or, or_true, false_or, or_false, forall_eq, iteT, iteF, LK_ hK, LM_ hK.m, LB_ hK.b]
  have ho : ∀ a, x + 3 ≤ a → a ≤ x + 15 → I2 a = I a := fun a r1 r2 => hs2 a (by omega)
  have em : ∀ a, x + 271 ≤ a → I2 a = I a := fun a ha => hs2 a (by have := hC.1; omega)
  refine ⟨_, J, rfl, fun J2 => pre _ _ _ _ (t227_29 ?_)⟩
  generalize hI3 : wr I2 (x + 1 + 2 + 7) (a * 8 + b) (nI v) = I3
  have e3 : ∀ q, q ≠ x + 1 + 2 + 7 → I3 q = I2 q := fun q hq => by rw [← hI3]; exact wrM1 hq
  have e37 : ∀ j, I3 (x + 1 + 2 + 7) j = if j = a * 8 + b then nI v else I (x + 1 + 2 + 7) j := fun j => by
    rw [← hI3]
    split <;> rename_i q
    · exact wrH rfl q
    · rw [wrM2 q, ho _ (by omega) (by omega)]
  have eb : bd I3 (x + 1 + 2) = (I (x + 1 + 2), I (x + 1 + 2 + 1), I (x + 1 + 2 + 2), I (x + 1 + 2 + 3), I (x + 1 + 2 + 4), I (x + 1 + 2 + 5), I (x + 1 + 2 + 6), I3 (x + 1 + 2 + 7), I (x + 1 + 2 + 8), I (x + 1 + 2 + 9), I (x + 1 + 2 + 10), I (x + 1 + 2 + 11), I (x + 1 + 2 + 12)) := by
    simp (disch := omega) only [bd, e3, ho]
  simp (disch := omega) only [vpT, nI_leI, nI_ltI, nI_eq, nleT, nleF, nltT, nltF, neqT, neqF, nI_add, pk_mul, subN, divN, nI_clamp, mI1, wrH, wrM1, wrM2, wrowH, wrowM, bI0, bI1, kIi, kVi, kRi, kLi, kIx, kVx, Option.some.injEq, exists_eq_left', true_and, and_true, true_implies, false_implies, implies_true, not_true_eq_false, not_false_eq_true, true_or, or_true, false_or, or_false, forall_eq, iteT, iteF, LK_ hK, LM_ hK.m, LB_ hK.b]
  refine mp_inT (lo := nI 0) (hi := nI 99) rfl rfl ⟨q5, q6⟩ (t227_42 ?_)
  simp (disch := omega) only [vpT, nI_leI, nI_ltI, nI_eq, nleT, nleF, nltT, nltF, neqT, neqF, nI_add, pk_mul, subN, divN, nI_clamp, mI1, wrH, wrM1, wrM2, wrowH, wrowM, bI0, bI1, kIi, kVi, kRi, kLi, kIx, kVx, Option.some.injEq, exists_eq_left', true_and, and_true, true_implies, false_implies, implies_true, not_true_eq_false, not_false_eq_true, true_or, or_true, false_or, or_false, forall_eq, iteT, iteF, LK_ hK, LM_ hK.m, LB_ hK.b]
  refine mp_rightT hK.m (wrH rfl rfl) (t227_46 ?_)
  simp (disch := omega) only [vpT, nI_leI, nI_ltI, nI_eq, nleT, nleF, nltT, nltF, neqT, neqF, nI_add, pk_mul, subN, divN, nI_clamp, mI1, wrH, wrM1, wrM2, wrowH, wrowM, bI0, bI1, kIi, kVi, kRi, kLi, kIx, kVx, Option.some.injEq, exists_eq_left', true_and, and_true, true_implies, false_implies, implies_true, not_true_eq_false, not_false_eq_true, true_or, or_true, false_or, or_false, forall_eq, iteT, iteF, LK_ hK, LM_ hK.m, LB_ hK.b]
  refine mp_kp hK h (by rw [wrM2 (by omega), e3 _ (by omega), em _ (by omega)]) (by rw [wrM1 (by omega), e3 _ (by omega), em _ (by omega)]) (by rw [wrM1 (by omega), e3 _ (by omega), em _ (by omega)]) fun I4 hs4' hf4 hP4 => t227_55 ?_
  have r4 : I4 (x + 271 + 1) = I (x + 271 + 1) := by rw [hs4' _ (by omega), wrM1 (by omega), e3 _ (by omega), em _ (by omega)]
  simp (disch := omega) only [vpT, nI_leI, nI_ltI, nI_eq, nleT, nleF, nltT, nltF, neqT, neqF, nI_add, pk_mul, subN, divN, nI_clamp, mI1, wrH, wrM1, wrM2, wrowH, wrowM, bI0, bI1, kIi, kVi, kRi, kLi, kIx, kVx, Option.some.injEq, exists_eq_left', true_and, and_true, true_implies, false_implies, implies_true, not_true_eq_false, not_false_eq_true, true_or, or_true, false_or, or_false, forall_eq, iteT, iteF, LK_ hK, LM_ hK.m, LB_ hK.b]
  refine mp_gapOf (S := bd I (x + 1 + 2)) (n := n) (sn := sn) (dn := dn) hK.m (by rw [r4]; exact h.r) ha hb (t227_61 ?_)
  simp (disch := omega) only [vpT, nI_leI, nI_ltI, nI_eq, nleT, nleF, nltT, nltF, neqT, neqF, nI_add, pk_mul, subN, divN, nI_clamp, mI1, wrH, wrM1, wrM2, wrowH, wrowM, bI0, bI1, kIi, kVi, kRi, kLi, kIx, kVx, Option.some.injEq, exists_eq_left', true_and, and_true, true_implies, false_implies, implies_true, not_true_eq_false, not_false_eq_true, true_or, or_true, false_or, or_false, forall_eq, iteT, iteF, LK_ hK, LM_ hK.m, LB_ hK.b]
  refine ⟨rfl, fb (n' := n) (sn' := sn) (dn' := dn) h (hC.fr fun q r1 r2 => e3 q (by omega)) (fun q hq => by rw [e3 q (by omega), hs2 q (by omega)]) (fun q hq => by rw [wrM1 (by omega), hs4' q (by omega), wrM1 (by omega)]) (hP4.fr (by simp (disch := omega) only [vpT, nI_leI, nI_ltI, nI_eq, nleT, nleF, nltT, nltF, neqT, neqF, nI_add, pk_mul, subN, divN, nI_clamp, mI1, wrH, wrM1, wrM2, wrowH, wrowM, bI0, bI1, kIi, kVi, kRi, kLi, kIx, kVx, Option.some.injEq, exists_eq_left', true_and, and_true, true_implies, false_implies, implies_true, not_true_eq_false, not_false_eq_true, true_or, or_true, false_or, or_false, forall_eq, iteT, iteF, LK_ hK, LM_ hK.m, LB_ hK.b]) (by simp (disch := omega) only [vpT, nI_leI, nI_ltI, nI_eq, nleT, nleF, nltT, nltF, neqT, neqF, nI_add, pk_mul, subN, divN, nI_clamp, mI1, wrH, wrM1, wrM2, wrowH, wrowM, bI0, bI1, kIi, kVi, kRi, kLi, kIx, kVx, Option.some.injEq, exists_eq_left', true_and, and_true, true_implies, false_implies, implies_true, not_true_eq_false, not_false_eq_true, true_or, or_true, false_or, or_false, forall_eq, iteT, iteF, LK_ hK, LM_ hK.m, LB_ hK.b])) (fun j hj => by rw [wrM1 (by omega), hf4 j (by omega), wrM2 (by omega)]) (by rw [wrM1 (by omega), hf4 0 (by omega)]; exact wrH rfl rfl) ?_ ?_⟩
  · rw [eb]
    refine h.1.1.ga fun k hk => ?_
    rw [e37]
    split
    · rw [nIi (by omega)]; omega
    · exact h.v.2.2.1.2.2.1 k hk
  · rw [eb]
    refine h.r.ga hn hs4 hd20 (fun k hk => ?_) (fun j j1 j2 => by rw [wrM2 (by omega), r4])
    rw [e37]
    split <;> rename_i q
    · exact wrH rfl (by omega)
    · rw [wrM2 (by omega), r4]
      exact h.r.2.2.1 k hk
theorem P_hurry {p1 p2 : Int32} (hK : LK L x) (h : SX I0 I x n sn dn ac fi tp sd) : PR I0 L x 116 263 1 0 d e [.int p1, .int p2] I J z l ex := by
  have hn := h.n10
  have hs4 := h.i.2.1.2
  have hd20 := h.i.2.2.1.2
  refine e116 (t116_0 ?_)
  simp (disch := omega) only [vpT, nI_leI, nI_ltI, nI_eq, nleT, nleF, nltT, nltF, neqT, neqF, nI_add, pk_mul, subN, divN, nI_clamp, mI1, wrH, wrM1, wrM2, wrowH, wrowM, bI0, bI1, kIi, kVi, kRi, kLi, kIx, kVx, Option.some.injEq, exists_eq_left', true_and, and_true, true_implies, false_implies, implies_true, not_true_eq_false, not_false_eq_true, true_or, or_true, false_or, or_false, forall_eq, iteT, iteF, LK_ hK, LM_ hK.m, LB_ hK.b, h.n0]
  refine sp_checkElement (fun q => Or.inl ⟨rfl, I, J, rfl, fun J2 => e263 (t263_0 ?_)⟩) (fun q1 q2 => t116_14 ?_)
  · simp (disch := omega) only [vpT, nI_leI, nI_ltI, nI_eq, nleT, nleF, nltT, nltF, neqT, neqF, nI_add, pk_mul, subN, divN, nI_clamp, mI1, wrH, wrM1, wrM2, wrowH, wrowM, bI0, bI1, kIi, kVi, kRi, kLi, kIx, kVx, Option.some.injEq, exists_eq_left', true_and, and_true, true_implies, false_implies, implies_true, not_true_eq_false, not_false_eq_true, true_or, or_true, false_or, or_false, forall_eq, iteT, iteF, LK_ hK, LM_ hK.m, LB_ hK.b]
    refine mp_isCraftF hK.m (by rw [wrM1 (by omega)]; exact h.m0) hn q (t263_11 ?_)
    simp (disch := omega) only [vpT, nI_leI, nI_ltI, nI_eq, nleT, nleF, nltT, nltF, neqT, neqF, nI_add, pk_mul, subN, divN, nI_clamp, mI1, wrH, wrM1, wrM2, wrowH, wrowM, bI0, bI1, kIi, kVi, kRi, kLi, kIx, kVx, Option.some.injEq, exists_eq_left', true_and, and_true, true_implies, false_implies, implies_true, not_true_eq_false, not_false_eq_true, true_or, or_true, false_or, or_false, forall_eq, iteT, iteF, LK_ hK, LM_ hK.m, LB_ hK.b]
    refine mp_rightF hK.m (wrH rfl rfl) (by decide) (by decide) (t263_15 ?_)
    simp (disch := omega) only [vpT, nI_leI, nI_ltI, nI_eq, nleT, nleF, nltT, nltF, neqT, neqF, nI_add, pk_mul, subN, divN, nI_clamp, mI1, wrH, wrM1, wrM2, wrowH, wrowM, bI0, bI1, kIi, kVi, kRi, kLi, kIx, kVx, Option.some.injEq, exists_eq_left', true_and, and_true, true_implies, false_implies, implies_true, not_true_eq_false, not_false_eq_true, true_or, or_true, false_or, or_false, forall_eq, iteT, iteF, LK_ hK, LM_ hK.m, LB_ hK.b]
    exact ff h same.rf rfl
  have pre : ∀ I3 J2 t F, I3 (x + 271 + 1) 0 = nI n → Wp (cal (e + 39)) kc_263 [] F (15, [some (.ref (x + 271)), some (.int p1), some (.int p2), none], [.int (nI 1)], (L, wr I3 (x + 271) 0 (nI 0), J2, t)) → cal (e + 40) 263 [.ref (x + 271), .int p1, .int p2] (L, I3, J2, t) F := by
    intro I3 J2 t F g kk
    refine e263 (t263_0 ?_)
    simp (disch := omega) only [vpT, nI_leI, nI_ltI, nI_eq, nleT, nleF, nltT, nltF, neqT, neqF, nI_add, pk_mul, subN, divN, nI_clamp, mI1, wrH, wrM1, wrM2, wrowH, wrowM, bI0, bI1, kIi, kVi, kRi, kLi, kIx, kVx, Option.some.injEq, exists_eq_left', true_and, and_true, true_implies, false_implies, implies_true, not_true_eq_false, not_false_eq_true, true_or, or_true, false_or, or_false, forall_eq, iteT, iteF, LK_ hK, LM_ hK.m, LB_ hK.b]
    refine mp_isCraftT hK.m (by rw [wrM1 (by omega)]; exact g) hn ⟨q1, q2⟩ (t263_11 ?_)
    simp (disch := omega) only [vpT, nI_leI, nI_ltI, nI_eq, nleT, nleF, nltT, nltF, neqT, neqF, nI_add, pk_mul, subN, divN, nI_clamp, mI1, wrH, wrM1, wrM2, wrowH, wrowM, bI0, bI1, kIi, kVi, kRi, kLi, kIx, kVx, Option.some.injEq, exists_eq_left', true_and, and_true, true_implies, false_implies, implies_true, not_true_eq_false, not_false_eq_true, true_or, or_true, false_or, or_false, forall_eq, iteT, iteF, LK_ hK, LM_ hK.m, LB_ hK.b]
    exact mp_rightT hK.m (wrH rfl rfl) kk
  refine sp_checkArgument (fun q => Or.inr ⟨rfl, I, J, rfl, fun J2 => pre _ _ _ _ h.m0 (t263_15 ?_)⟩) (fun q5 q6 => t116_20 ?_)
  · simp (disch := omega) only [vpT, nI_leI, nI_ltI, nI_eq, nleT, nleF, nltT, nltF, neqT, neqF, nI_add, pk_mul, subN, divN, nI_clamp, mI1, wrH, wrM1, wrM2, wrowH, wrowM, bI0, bI1, kIi, kVi, kRi, kLi, kIx, kVx, Option.some.injEq, exists_eq_left', true_and, and_true, true_implies, false_implies, implies_true, not_true_eq_false, not_false_eq_true, true_or, or_true, false_or, or_false, forall_eq, iteT, iteF, LK_ hK, LM_ hK.m, LB_ hK.b]
    refine mp_inF (lo := nI 0) (hi := nI 1) rfl rfl q (t263_26 ?_)
    simp (disch := omega) only [vpT, nI_leI, nI_ltI, nI_eq, nleT, nleF, nltT, nltF, neqT, neqF, nI_add, pk_mul, subN, divN, nI_clamp, mI1, wrH, wrM1, wrM2, wrowH, wrowM, bI0, bI1, kIi, kVi, kRi, kLi, kIx, kVx, Option.some.injEq, exists_eq_left', true_and, and_true, true_implies, false_implies, implies_true, not_true_eq_false, not_false_eq_true, true_or, or_true, false_or, or_false, forall_eq, iteT, iteF, LK_ hK, LM_ hK.m, LB_ hK.b]
    refine mp_rightF hK.m (wrH rfl rfl) (by decide) (by decide) (t263_30 ?_)
    simp (disch := omega) only [vpT, nI_leI, nI_ltI, nI_eq, nleT, nleF, nltT, nltF, neqT, neqF, nI_add, pk_mul, subN, divN, nI_clamp, mI1, wrH, wrM1, wrM2, wrowH, wrowM, bI0, bI1, kIi, kVi, kRi, kLi, kIx, kVx, Option.some.injEq, exists_eq_left', true_and, and_true, true_implies, false_implies, implies_true, not_true_eq_false, not_false_eq_true, true_or, or_true, false_or, or_false, forall_eq, iteT, iteF, LK_ hK, LM_ hK.m, LB_ hK.b]
    exact ff h same.rf rfl
  obtain ⟨a, ha, rfl⟩ := i_lt (by omega) q1 q2
  obtain ⟨v, hv, rfl⟩ := i_le (by omega) q5 q6
  simp (disch := omega) only [vpT, nI_leI, nI_ltI, nI_eq, nleT, nleF, nltT, nltF, neqT, neqF, nI_add, pk_mul, subN, divN, nI_clamp, mI1, wrH, wrM1, wrM2, wrowH, wrowM, bI0, bI1, kIi, kVi, kRi, kLi, kIx, kVx, Option.some.injEq, exists_eq_left', true_and, and_true, true_implies, false_implies, implies_true, not_true_eq_false, not_false_eq_true, true_or, or_true, false_or, or_false, forall_eq, iteT, iteF, LK_ hK, LM_ hK.m, LB_ hK.b]
  refine sp_cell (N := 10) hK h (LB_ hK.b).2.2.1.2.2.2.2.1 (LB_ hK.b).2.2.2.2.2.2.2.1 (by omega) (by decide) (by omega) (by omega) fun I2 fi' s hC hs2 => t116_36 ?_
  simp (disch := omega) only [vpT, nI_leI, nI_ltI, nI_eq, nleT, nleF, nltT, nltF, neqT, neqF, nI_add, pk_mul, subN, divN, nI_clamp, mI1, wrH, wrM1, wrM2, wrowH, wrowM, bI0, bI1, kIi, kVi, kRi, kLi, kIx, kVx, Option.some.injEq, exists_eq_left', true_and, and_true, true_implies, false_implies, implies_true, not_true_eq_false, not_false_eq_true, true_or, or_true, false_or, or_false, forall_eq, iteT, iteF, LK_ hK, LM_ hK.m, LB_ hK.b]
  have ho : ∀ a, x + 3 ≤ a → a ≤ x + 15 → I2 a = I a := fun a r1 r2 => hs2 a (by omega)
  have em : ∀ a, x + 271 ≤ a → I2 a = I a := fun a ha => hs2 a (by have := hC.1; omega)
  generalize hI3 : wr I2 (x + 1 + 2 + 5) a (nI v) = I3
  have e3 : ∀ q, q ≠ x + 1 + 2 + 5 → I3 q = I2 q := fun q hq => by rw [← hI3]; exact wrM1 hq
  have e35 : ∀ j, I3 (x + 1 + 2 + 5) j = if j = a then nI v else I (x + 1 + 2 + 5) j := fun j => by
    rw [← hI3]
    split <;> rename_i q
    · exact wrH rfl q
    · rw [wrM2 q, ho _ (by omega) (by omega)]
  have eb : bd I3 (x + 1 + 2) = (I (x + 1 + 2), I (x + 1 + 2 + 1), I (x + 1 + 2 + 2), I (x + 1 + 2 + 3), I (x + 1 + 2 + 4), I3 (x + 1 + 2 + 5), I (x + 1 + 2 + 6), I (x + 1 + 2 + 7), I (x + 1 + 2 + 8), I (x + 1 + 2 + 9), I (x + 1 + 2 + 10), I (x + 1 + 2 + 11), I (x + 1 + 2 + 12)) := by
    simp (disch := omega) only [bd, e3, ho]
  refine ⟨_, J, rfl, fun J2 => pre _ _ _ _ (by rw [e3 _ (by omega), em _ (by omega)]; exact h.m0) (t263_15 ?_)⟩
  simp (disch := omega) only [vpT, nI_leI, nI_ltI, nI_eq, nleT, nleF, nltT, nltF, neqT, neqF, nI_add, pk_mul, subN, divN, nI_clamp, mI1, wrH, wrM1, wrM2, wrowH, wrowM, bI0, bI1, kIi, kVi, kRi, kLi, kIx, kVx, Option.some.injEq, exists_eq_left', true_and, and_true, true_implies, false_implies, implies_true, not_true_eq_false, not_false_eq_true, true_or, or_true, false_or, or_false, forall_eq, iteT, iteF, LK_ hK, LM_ hK.m, LB_ hK.b]
  refine mp_inT (lo := nI 0) (hi := nI 1) rfl rfl ⟨q5, q6⟩ (t263_26 ?_)
  simp (disch := omega) only [vpT, nI_leI, nI_ltI, nI_eq, nleT, nleF, nltT, nltF, neqT, neqF, nI_add, pk_mul, subN, divN, nI_clamp, mI1, wrH, wrM1, wrM2, wrowH, wrowM, bI0, bI1, kIi, kVi, kRi, kLi, kIx, kVx, Option.some.injEq, exists_eq_left', true_and, and_true, true_implies, false_implies, implies_true, not_true_eq_false, not_false_eq_true, true_or, or_true, false_or, or_false, forall_eq, iteT, iteF, LK_ hK, LM_ hK.m, LB_ hK.b]
  refine mp_rightT hK.m (wrH rfl rfl) (t263_30 ?_)
  simp (disch := omega) only [vpT, nI_leI, nI_ltI, nI_eq, nleT, nleF, nltT, nltF, neqT, neqF, nI_add, pk_mul, subN, divN, nI_clamp, mI1, wrH, wrM1, wrM2, wrowH, wrowM, bI0, bI1, kIi, kVi, kRi, kLi, kIx, kVx, Option.some.injEq, exists_eq_left', true_and, and_true, true_implies, false_implies, implies_true, not_true_eq_false, not_false_eq_true, true_or, or_true, false_or, or_false, forall_eq, iteT, iteF, LK_ hK, LM_ hK.m, LB_ hK.b]
  refine mp_kp hK h (by rw [wrM2 (by omega), e3 _ (by omega), em _ (by omega)]) (by rw [wrM1 (by omega), e3 _ (by omega), em _ (by omega)]) (by rw [wrM1 (by omega), e3 _ (by omega), em _ (by omega)]) fun I4 hs4' hf4 hP4 => t263_39 ?_
  have r4 : I4 (x + 271 + 1) = I (x + 271 + 1) := by rw [hs4' _ (by omega), wrM1 (by omega), e3 _ (by omega), em _ (by omega)]
  simp (disch := omega) only [vpT, nI_leI, nI_ltI, nI_eq, nleT, nleF, nltT, nltF, neqT, neqF, nI_add, pk_mul, subN, divN, nI_clamp, mI1, wrH, wrM1, wrM2, wrowH, wrowM, bI0, bI1, kIi, kVi, kRi, kLi, kIx, kVx, Option.some.injEq, exists_eq_left', true_and, and_true, true_implies, false_implies, implies_true, not_true_eq_false, not_false_eq_true, true_or, or_true, false_or, or_false, forall_eq, iteT, iteF, LK_ hK, LM_ hK.m, LB_ hK.b]
  refine mp_isHurried (S := bd I (x + 1 + 2)) (n := n) (sn := sn) (dn := dn) hK.m (by rw [r4]; exact h.r) h.i ha (t263_44 ?_)
  obtain ⟨w, w1, w2, w3⟩ := h.r.2.2.2.2.2
  obtain ⟨u1, u2⟩ := hset_x w w1 a (by omega) v (by omega)
  simp (disch := omega) only [vpT, nI_leI, nI_ltI, nI_eq, nleT, nleF, nltT, nltF, neqT, neqF, nI_add, pk_mul, subN, divN, nI_clamp, mI1, wrH, wrM1, wrM2, wrowH, wrowM, bI0, bI1, kIi, kVi, kRi, kLi, kIx, kVx, Option.some.injEq, exists_eq_left', true_and, and_true, true_implies, false_implies, implies_true, not_true_eq_false, not_false_eq_true, true_or, or_true, false_or, or_false, forall_eq, iteT, iteF, LK_ hK, LM_ hK.m, LB_ hK.b, r4, w2, u1]
  refine ⟨rfl, fb (n' := n) (sn' := sn) (dn' := dn) h (hC.fr fun q r1 r2 => e3 q (by omega)) (fun q hq => by rw [e3 q (by omega), hs2 q (by omega)]) (fun q hq => by rw [wrM1 (by omega), hs4' q (by omega), wrM1 (by omega)]) (hP4.fr (by simp (disch := omega) only [vpT, nI_leI, nI_ltI, nI_eq, nleT, nleF, nltT, nltF, neqT, neqF, nI_add, pk_mul, subN, divN, nI_clamp, mI1, wrH, wrM1, wrM2, wrowH, wrowM, bI0, bI1, kIi, kVi, kRi, kLi, kIx, kVx, Option.some.injEq, exists_eq_left', true_and, and_true, true_implies, false_implies, implies_true, not_true_eq_false, not_false_eq_true, true_or, or_true, false_or, or_false, forall_eq, iteT, iteF, LK_ hK, LM_ hK.m, LB_ hK.b]) (by simp (disch := omega) only [vpT, nI_leI, nI_ltI, nI_eq, nleT, nleF, nltT, nltF, neqT, neqF, nI_add, pk_mul, subN, divN, nI_clamp, mI1, wrH, wrM1, wrM2, wrowH, wrowM, bI0, bI1, kIi, kVi, kRi, kLi, kIx, kVx, Option.some.injEq, exists_eq_left', true_and, and_true, true_implies, false_implies, implies_true, not_true_eq_false, not_false_eq_true, true_or, or_true, false_or, or_false, forall_eq, iteT, iteF, LK_ hK, LM_ hK.m, LB_ hK.b])) (fun j hj => by rw [wrM1 (by omega), hf4 j (by omega), wrM2 (by omega)]) (by rw [wrM1 (by omega), hf4 0 (by omega)]; exact wrH rfl rfl) ?_ ?_⟩
  · rw [eb]
    refine h.1.1.hu fun k hk => ?_
    rw [e35]
    split
    · have : v = 0 ∨ v = 1 := by omega
      rcases this with rfl | rfl
      · exact Or.inl rfl
      · exact Or.inr rfl
    · exact h.v.2.2.2.1 k hk
  · rw [eb]
    refine h.r.hu hn hs4 hd20 u2 (wrH rfl rfl) (fun k hk => ?_) (fun j j1 => by rw [wrM2 (by omega), r4])
    rw [e35, hset_b w w1 a (by omega) v (by omega) k (by omega)]
    split
    · rfl
    · exact w3 k hk
theorem P_rule {fr : Bool} {p2 : Int32} (hK : LK L x) (h : SX I0 I x n sn dn ac fi tp sd) : PR I0 L x 114 228 0 9 d e [.int (bI fr), .int p2] I J z l ex := by
  have hn := h.n10
  have hs4 := h.i.2.1.2
  have hd20 := h.i.2.2.1.2
  obtain ⟨sh, hs3, hsh⟩ := h.v.2.2.2.2
  have key : ∀ M B : Nat, M ≤ 99 → (fr = false → M = 3 ∧ B = 11) → (fr = true → B = 12) → ¬ (nI 0 ≤ p2 ∧ p2 ≤ nI M) ∨ True := fun _ _ _ _ _ => Or.inr trivial
  refine e114 (t114_0 ?_)
  have bad : ∀ M : Int32, (M = if fr then nI 99 else nI 3) → ¬ (nI 0 ≤ p2 ∧ p2 ≤ M) → MD I0 L x 228 e [.int (bI fr), .int p2] (fun _ => True) 1 (z + 1, l + 6, false) (L, I, J, z + 1, l + 6, false) := by
    intro M hM q
    refine ⟨I, J, rfl, fun J2 => e228 (t228_0 ?_)⟩
    cases fr with
    | false =>
      simp (disch := omega) only [vpT, nI_leI, nI_ltI, nI_eq, nleT, nleF, nltT, nltF, neqT, neqF, nI_add, pk_mul, subN, divN, nI_clamp, mI1, wrH, wrM1, wrM2, wrowH, wrowM, bI0, bI1, kIi, kVi, kRi, kLi, kIx, kVx, Option.some.injEq, exists_eq_left', true_and, and_true, true_implies, false_implies, implies_true, not_true_eq_false, not_false_eq_true, true_or, or_true, false_or, or_false, forall_eq, iteT, iteF, LK_ hK, LM_ hK.m, LB_ hK.b, bI_f]
      refine mp_inF (lo := nI 0) (hi := nI 3) rfl rfl (by rw [hM] at q; exact q) (t228_25 ?_)
      simp (disch := omega) only [vpT, nI_leI, nI_ltI, nI_eq, nleT, nleF, nltT, nltF, neqT, neqF, nI_add, pk_mul, subN, divN, nI_clamp, mI1, wrH, wrM1, wrM2, wrowH, wrowM, bI0, bI1, kIi, kVi, kRi, kLi, kIx, kVx, Option.some.injEq, exists_eq_left', true_and, and_true, true_implies, false_implies, implies_true, not_true_eq_false, not_false_eq_true, true_or, or_true, false_or, or_false, forall_eq, iteT, iteF, LK_ hK, LM_ hK.m, LB_ hK.b]
      refine mp_rightF hK.m (wrH rfl rfl) (by decide) (by decide) (t228_29 ?_)
      simp (disch := omega) only [vpT, nI_leI, nI_ltI, nI_eq, nleT, nleF, nltT, nltF, neqT, neqF, nI_add, pk_mul, subN, divN, nI_clamp, mI1, wrH, wrM1, wrM2, wrowH, wrowM, bI0, bI1, kIi, kVi, kRi, kLi, kIx, kVx, Option.some.injEq, exists_eq_left', true_and, and_true, true_implies, false_implies, implies_true, not_true_eq_false, not_false_eq_true, true_or, or_true, false_or, or_false, forall_eq, iteT, iteF, LK_ hK, LM_ hK.m, LB_ hK.b]
      exact ff h same.rf rfl
    | true =>
      simp (disch := omega) only [vpT, nI_leI, nI_ltI, nI_eq, nleT, nleF, nltT, nltF, neqT, neqF, nI_add, pk_mul, subN, divN, nI_clamp, mI1, wrH, wrM1, wrM2, wrowH, wrowM, bI0, bI1, kIi, kVi, kRi, kLi, kIx, kVx, Option.some.injEq, exists_eq_left', true_and, and_true, true_implies, false_implies, implies_true, not_true_eq_false, not_false_eq_true, true_or, or_true, false_or, or_false, forall_eq, iteT, iteF, LK_ hK, LM_ hK.m, LB_ hK.b, bI_t]
      refine mp_inF (lo := nI 0) (hi := nI 99) rfl rfl (by rw [hM] at q; exact q) (t228_25 ?_)
      simp (disch := omega) only [vpT, nI_leI, nI_ltI, nI_eq, nleT, nleF, nltT, nltF, neqT, neqF, nI_add, pk_mul, subN, divN, nI_clamp, mI1, wrH, wrM1, wrM2, wrowH, wrowM, bI0, bI1, kIi, kVi, kRi, kLi, kIx, kVx, Option.some.injEq, exists_eq_left', true_and, and_true, true_implies, false_implies, implies_true, not_true_eq_false, not_false_eq_true, true_or, or_true, false_or, or_false, forall_eq, iteT, iteF, LK_ hK, LM_ hK.m, LB_ hK.b]
      refine mp_rightF hK.m (wrH rfl rfl) (by decide) (by decide) (t228_29 ?_)
      simp (disch := omega) only [vpT, nI_leI, nI_ltI, nI_eq, nleT, nleF, nltT, nltF, neqT, neqF, nI_add, pk_mul, subN, divN, nI_clamp, mI1, wrH, wrM1, wrM2, wrowH, wrowM, bI0, bI1, kIi, kVi, kRi, kLi, kIx, kVx, Option.some.injEq, exists_eq_left', true_and, and_true, true_implies, false_implies, implies_true, not_true_eq_false, not_false_eq_true, true_or, or_true, false_or, or_false, forall_eq, iteT, iteF, LK_ hK, LM_ hK.m, LB_ hK.b]
      exact ff h same.rf rfl
  cases fr with
  | false =>
    simp (disch := omega) only [vpT, nI_leI, nI_ltI, nI_eq, nleT, nleF, nltT, nltF, neqT, neqF, nI_add, pk_mul, subN, divN, nI_clamp, mI1, wrH, wrM1, wrM2, wrowH, wrowM, bI0, bI1, kIi, kVi, kRi, kLi, kIx, kVx, Option.some.injEq, exists_eq_left', true_and, and_true, true_implies, false_implies, implies_true, not_true_eq_false, not_false_eq_true, true_or, or_true, false_or, or_false, forall_eq, iteT, iteF, LK_ hK, LM_ hK.m, LB_ hK.b, bI_f]
    refine sp_checkArgument (fun q => Or.inl ⟨rfl, bad _ rfl q⟩) (fun q5 q6 => t114_15 ?_)
    obtain ⟨v, hv, rfl⟩ := i_le (by omega) q5 q6
    simp (disch := omega) only [vpT, nI_leI, nI_ltI, nI_eq, nleT, nleF, nltT, nltF, neqT, neqF, nI_add, pk_mul, subN, divN, nI_clamp, mI1, wrH, wrM1, wrM2, wrowH, wrowM, bI0, bI1, kIi, kVi, kRi, kLi, kIx, kVx, Option.some.injEq, exists_eq_left', true_and, and_true, true_implies, false_implies, implies_true, not_true_eq_false, not_false_eq_true, true_or, or_true, false_or, or_false, forall_eq, iteT, iteF, LK_ hK, LM_ hK.m, LB_ hK.b]
    refine sp_kp hK h (fun _ _ _ _ => rfl) fun I2 fi' s hC hs2 => t114_31 ?_
    have ho : ∀ a, x + 3 ≤ a → a ≤ x + 15 → I2 a = I a := fun a r1 r2 => hs2 a (by omega)
    have em : ∀ a, x + 271 ≤ a → I2 a = I a := fun a ha => hs2 a (by have := hC.1; omega)
    simp (disch := omega) only [vpT, nI_leI, nI_ltI, nI_eq, nleT, nleF, nltT, nltF, neqT, neqF, nI_add, pk_mul, subN, divN, nI_clamp, mI1, wrH, wrM1, wrM2, wrowH, wrowM, bI0, bI1, kIi, kVi, kRi, kLi, kIx, kVx, Option.some.injEq, exists_eq_left', true_and, and_true, true_implies, false_implies, implies_true, not_true_eq_false, not_false_eq_true, true_or, or_true, false_or, or_false, forall_eq, iteT, iteF, LK_ hK, LM_ hK.m, LB_ hK.b]
    generalize hI3 : wr I2 (x + 1 + 2) 11 (nI v) = I3
    have e3 : ∀ q, q ≠ x + 1 + 2 → I3 q = I2 q := fun q hq => by rw [← hI3]; exact wrM1 hq
    have e30 : ∀ j, j ≠ 11 → I3 (x + 1 + 2) j = I (x + 1 + 2) j := fun j hj => by rw [← hI3, wrM2 hj, ho _ (by omega) (by omega)]
    have e311 : I3 (x + 1 + 2) 11 = nI v := by rw [← hI3]; exact wrH rfl rfl
    have eb : bd I3 (x + 1 + 2) = (I3 (x + 1 + 2), (bd I (x + 1 + 2)).2) := by
      simp (disch := omega) only [bd, e3, ho]
    refine ⟨_, J, rfl, fun J2 => e228 (t228_0 ?_)⟩
    simp (disch := omega) only [vpT, nI_leI, nI_ltI, nI_eq, nleT, nleF, nltT, nltF, neqT, neqF, nI_add, pk_mul, subN, divN, nI_clamp, mI1, wrH, wrM1, wrM2, wrowH, wrowM, bI0, bI1, kIi, kVi, kRi, kLi, kIx, kVx, Option.some.injEq, exists_eq_left', true_and, and_true, true_implies, false_implies, implies_true, not_true_eq_false, not_false_eq_true, true_or, or_true, false_or, or_false, forall_eq, iteT, iteF, LK_ hK, LM_ hK.m, LB_ hK.b]
    refine mp_inT (lo := nI 0) (hi := nI 3) rfl rfl ⟨q5, q6⟩ (t228_25 ?_)
    simp (disch := omega) only [vpT, nI_leI, nI_ltI, nI_eq, nleT, nleF, nltT, nltF, neqT, neqF, nI_add, pk_mul, subN, divN, nI_clamp, mI1, wrH, wrM1, wrM2, wrowH, wrowM, bI0, bI1, kIi, kVi, kRi, kLi, kIx, kVx, Option.some.injEq, exists_eq_left', true_and, and_true, true_implies, false_implies, implies_true, not_true_eq_false, not_false_eq_true, true_or, or_true, false_or, or_false, forall_eq, iteT, iteF, LK_ hK, LM_ hK.m, LB_ hK.b]
    refine mp_rightT hK.m (wrH rfl rfl) (t228_29 ?_)
    simp (disch := omega) only [vpT, nI_leI, nI_ltI, nI_eq, nleT, nleF, nltT, nltF, neqT, neqF, nI_add, pk_mul, subN, divN, nI_clamp, mI1, wrH, wrM1, wrM2, wrowH, wrowM, bI0, bI1, kIi, kVi, kRi, kLi, kIx, kVx, Option.some.injEq, exists_eq_left', true_and, and_true, true_implies, false_implies, implies_true, not_true_eq_false, not_false_eq_true, true_or, or_true, false_or, or_false, forall_eq, iteT, iteF, LK_ hK, LM_ hK.m, LB_ hK.b]
    refine mp_kp hK h (by rw [wrM2 (by omega), e3 _ (by omega), em _ (by omega)]) (by rw [wrM1 (by omega), e3 _ (by omega), em _ (by omega)]) (by rw [wrM1 (by omega), e3 _ (by omega), em _ (by omega)]) fun I4 hs4' hf4 hP4 => t228_38 ?_
    have r4 : I4 (x + 271 + 1) = I (x + 271 + 1) := by rw [hs4' _ (by omega), wrM1 (by omega), e3 _ (by omega), em _ (by omega)]
    simp (disch := omega) only [vpT, nI_leI, nI_ltI, nI_eq, nleT, nleF, nltT, nltF, neqT, neqF, nI_add, pk_mul, subN, divN, nI_clamp, mI1, wrH, wrM1, wrM2, wrowH, wrowM, bI0, bI1, kIi, kVi, kRi, kLi, kIx, kVx, Option.some.injEq, exists_eq_left', true_and, and_true, true_implies, false_implies, implies_true, not_true_eq_false, not_false_eq_true, true_or, or_true, false_or, or_false, forall_eq, iteT, iteF, LK_ hK, LM_ hK.m, LB_ hK.b, r4]
    refine ⟨by rw [ho _ (by omega) (by omega)]; exact h.r.1.2.2.1, fb (n' := n) (sn' := sn) (dn' := dn) h (hC.fr fun q r1 r2 => e3 q (by omega)) (fun q hq => by rw [e3 q (by omega), hs2 q (by omega)]) (fun q hq => by rw [wrM1 (by omega), hs4' q (by omega), wrM1 (by omega)]) (hP4.fr (by simp (disch := omega) only [vpT, nI_leI, nI_ltI, nI_eq, nleT, nleF, nltT, nltF, neqT, neqF, nI_add, pk_mul, subN, divN, nI_clamp, mI1, wrH, wrM1, wrM2, wrowH, wrowM, bI0, bI1, kIi, kVi, kRi, kLi, kIx, kVx, Option.some.injEq, exists_eq_left', true_and, and_true, true_implies, false_implies, implies_true, not_true_eq_false, not_false_eq_true, true_or, or_true, false_or, or_false, forall_eq, iteT, iteF, LK_ hK, LM_ hK.m, LB_ hK.b]) (by simp (disch := omega) only [vpT, nI_leI, nI_ltI, nI_eq, nleT, nleF, nltT, nltF, neqT, neqF, nI_add, pk_mul, subN, divN, nI_clamp, mI1, wrH, wrM1, wrM2, wrowH, wrowM, bI0, bI1, kIi, kVi, kRi, kLi, kIx, kVx, Option.some.injEq, exists_eq_left', true_and, and_true, true_implies, false_implies, implies_true, not_true_eq_false, not_false_eq_true, true_or, or_true, false_or, or_false, forall_eq, iteT, iteF, LK_ hK, LM_ hK.m, LB_ hK.b])) (fun j hj => by rw [wrM1 (by omega), hf4 j (by omega), wrM2 (by omega)]) (by rw [wrM1 (by omega), hf4 0 (by omega)]; exact wrH rfl rfl) ?_ ?_⟩
    · rw [eb]
      exact h.1.1.fz (fun j j1 j2 => e30 j j1) hv e311
    · rw [eb]
      exact h.r.fz hn hs4 hd20 (fun j j1 j2 => e30 j j1) (by rw [e311]; exact wrH rfl rfl) (by rw [e30 12 (by decide), wrM2 (by omega), r4]; exact h.r.1.2.2.2.1) (fun j j1 j2 => by rw [wrM2 (by omega), r4])
  | true =>
    simp (disch := omega) only [vpT, nI_leI, nI_ltI, nI_eq, nleT, nleF, nltT, nltF, neqT, neqF, nI_add, pk_mul, subN, divN, nI_clamp, mI1, wrH, wrM1, wrM2, wrowH, wrowM, bI0, bI1, kIi, kVi, kRi, kLi, kIx, kVx, Option.some.injEq, exists_eq_left', true_and, and_true, true_implies, false_implies, implies_true, not_true_eq_false, not_false_eq_true, true_or, or_true, false_or, or_false, forall_eq, iteT, iteF, LK_ hK, LM_ hK.m, LB_ hK.b, bI_t]
    refine sp_checkArgument (fun q => Or.inl ⟨rfl, bad _ rfl q⟩) (fun q5 q6 => t114_15 ?_)
    obtain ⟨v, hv, rfl⟩ := i_le (by omega) q5 q6
    simp (disch := omega) only [vpT, nI_leI, nI_ltI, nI_eq, nleT, nleF, nltT, nltF, neqT, neqF, nI_add, pk_mul, subN, divN, nI_clamp, mI1, wrH, wrM1, wrM2, wrowH, wrowM, bI0, bI1, kIi, kVi, kRi, kLi, kIx, kVx, Option.some.injEq, exists_eq_left', true_and, and_true, true_implies, false_implies, implies_true, not_true_eq_false, not_false_eq_true, true_or, or_true, false_or, or_false, forall_eq, iteT, iteF, LK_ hK, LM_ hK.m, LB_ hK.b]
    refine sp_kp hK h (fun _ _ _ _ => rfl) fun I2 fi' s hC hs2 => t114_31 ?_
    have ho : ∀ a, x + 3 ≤ a → a ≤ x + 15 → I2 a = I a := fun a r1 r2 => hs2 a (by omega)
    have em : ∀ a, x + 271 ≤ a → I2 a = I a := fun a ha => hs2 a (by have := hC.1; omega)
    simp (disch := omega) only [vpT, nI_leI, nI_ltI, nI_eq, nleT, nleF, nltT, nltF, neqT, neqF, nI_add, pk_mul, subN, divN, nI_clamp, mI1, wrH, wrM1, wrM2, wrowH, wrowM, bI0, bI1, kIi, kVi, kRi, kLi, kIx, kVx, Option.some.injEq, exists_eq_left', true_and, and_true, true_implies, false_implies, implies_true, not_true_eq_false, not_false_eq_true, true_or, or_true, false_or, or_false, forall_eq, iteT, iteF, LK_ hK, LM_ hK.m, LB_ hK.b]
    generalize hI3 : wr I2 (x + 1 + 2) 12 (nI v) = I3
    have e3 : ∀ q, q ≠ x + 1 + 2 → I3 q = I2 q := fun q hq => by rw [← hI3]; exact wrM1 hq
    have e30 : ∀ j, j ≠ 12 → I3 (x + 1 + 2) j = I (x + 1 + 2) j := fun j hj => by rw [← hI3, wrM2 hj, ho _ (by omega) (by omega)]
    have e311 : I3 (x + 1 + 2) 12 = nI v := by rw [← hI3]; exact wrH rfl rfl
    have eb : bd I3 (x + 1 + 2) = (I3 (x + 1 + 2), (bd I (x + 1 + 2)).2) := by
      simp (disch := omega) only [bd, e3, ho]
    refine ⟨_, J, rfl, fun J2 => e228 (t228_0 ?_)⟩
    simp (disch := omega) only [vpT, nI_leI, nI_ltI, nI_eq, nleT, nleF, nltT, nltF, neqT, neqF, nI_add, pk_mul, subN, divN, nI_clamp, mI1, wrH, wrM1, wrM2, wrowH, wrowM, bI0, bI1, kIi, kVi, kRi, kLi, kIx, kVx, Option.some.injEq, exists_eq_left', true_and, and_true, true_implies, false_implies, implies_true, not_true_eq_false, not_false_eq_true, true_or, or_true, false_or, or_false, forall_eq, iteT, iteF, LK_ hK, LM_ hK.m, LB_ hK.b]
    refine mp_inT (lo := nI 0) (hi := nI 99) rfl rfl ⟨q5, q6⟩ (t228_25 ?_)
    simp (disch := omega) only [vpT, nI_leI, nI_ltI, nI_eq, nleT, nleF, nltT, nltF, neqT, neqF, nI_add, pk_mul, subN, divN, nI_clamp, mI1, wrH, wrM1, wrM2, wrowH, wrowM, bI0, bI1, kIi, kVi, kRi, kLi, kIx, kVx, Option.some.injEq, exists_eq_left', true_and, and_true, true_implies, false_implies, implies_true, not_true_eq_false, not_false_eq_true, true_or, or_true, false_or, or_false, forall_eq, iteT, iteF, LK_ hK, LM_ hK.m, LB_ hK.b]
    refine mp_rightT hK.m (wrH rfl rfl) (t228_29 ?_)
    simp (disch := omega) only [vpT, nI_leI, nI_ltI, nI_eq, nleT, nleF, nltT, nltF, neqT, neqF, nI_add, pk_mul, subN, divN, nI_clamp, mI1, wrH, wrM1, wrM2, wrowH, wrowM, bI0, bI1, kIi, kVi, kRi, kLi, kIx, kVx, Option.some.injEq, exists_eq_left', true_and, and_true, true_implies, false_implies, implies_true, not_true_eq_false, not_false_eq_true, true_or, or_true, false_or, or_false, forall_eq, iteT, iteF, LK_ hK, LM_ hK.m, LB_ hK.b]
    refine mp_kp hK h (by rw [wrM2 (by omega), e3 _ (by omega), em _ (by omega)]) (by rw [wrM1 (by omega), e3 _ (by omega), em _ (by omega)]) (by rw [wrM1 (by omega), e3 _ (by omega), em _ (by omega)]) fun I4 hs4' hf4 hP4 => t228_38 ?_
    have r4 : I4 (x + 271 + 1) = I (x + 271 + 1) := by rw [hs4' _ (by omega), wrM1 (by omega), e3 _ (by omega), em _ (by omega)]
    simp (disch := omega) only [vpT, nI_leI, nI_ltI, nI_eq, nleT, nleF, nltT, nltF, neqT, neqF, nI_add, pk_mul, subN, divN, nI_clamp, mI1, wrH, wrM1, wrM2, wrowH, wrowM, bI0, bI1, kIi, kVi, kRi, kLi, kIx, kVx, Option.some.injEq, exists_eq_left', true_and, and_true, true_implies, false_implies, implies_true, not_true_eq_false, not_false_eq_true, true_or, or_true, false_or, or_false, forall_eq, iteT, iteF, LK_ hK, LM_ hK.m, LB_ hK.b, r4]
    refine ⟨by rw [ho _ (by omega) (by omega)]; exact h.r.1.2.2.2.1, fb (n' := n) (sn' := sn) (dn' := dn) h (hC.fr fun q r1 r2 => e3 q (by omega)) (fun q hq => by rw [e3 q (by omega), hs2 q (by omega)]) (fun q hq => by rw [wrM1 (by omega), hs4' q (by omega), wrM1 (by omega)]) (hP4.fr (by simp (disch := omega) only [vpT, nI_leI, nI_ltI, nI_eq, nleT, nleF, nltT, nltF, neqT, neqF, nI_add, pk_mul, subN, divN, nI_clamp, mI1, wrH, wrM1, wrM2, wrowH, wrowM, bI0, bI1, kIi, kVi, kRi, kLi, kIx, kVx, Option.some.injEq, exists_eq_left', true_and, and_true, true_implies, false_implies, implies_true, not_true_eq_false, not_false_eq_true, true_or, or_true, false_or, or_false, forall_eq, iteT, iteF, LK_ hK, LM_ hK.m, LB_ hK.b]) (by simp (disch := omega) only [vpT, nI_leI, nI_ltI, nI_eq, nleT, nleF, nltT, nltF, neqT, neqF, nI_add, pk_mul, subN, divN, nI_clamp, mI1, wrH, wrM1, wrM2, wrowH, wrowM, bI0, bI1, kIi, kVi, kRi, kLi, kIx, kVx, Option.some.injEq, exists_eq_left', true_and, and_true, true_implies, false_implies, implies_true, not_true_eq_false, not_false_eq_true, true_or, or_true, false_or, or_false, forall_eq, iteT, iteF, LK_ hK, LM_ hK.m, LB_ hK.b])) (fun j hj => by rw [wrM1 (by omega), hf4 j (by omega), wrM2 (by omega)]) (by rw [wrM1 (by omega), hf4 0 (by omega)]; exact wrH rfl rfl) ?_ ?_⟩
    · rw [eb]
      exact h.1.1.fz (fun j j1 j2 => e30 j j2) hs3 ((e30 11 (by decide)).trans hsh)
    · rw [eb]
      exact h.r.fz hn hs4 hd20 (fun j j1 j2 => e30 j j2) (by rw [e30 11 (by decide), wrM2 (by omega), r4]; exact h.r.1.2.2.1) (by rw [e311]; exact wrH rfl rfl) (fun j j1 j2 => by rw [wrM2 (by omega), r4])
end CALLS3
