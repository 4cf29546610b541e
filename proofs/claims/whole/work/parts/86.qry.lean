/-! The law's calls, one by one: the class's and the model's. -/
abbrev cA (x s : Nat) : Nat → Prop := fun a => (x + 2 ≤ a ∧ a ≤ x + 55) ∨ a = x + 57 ∨ a = x + 58 ∨ (x + 60 + 13 * s ≤ a ∧ a ≤ x + 60 + 13 * s + 12) ∨ a = x + 270
abbrev mA (x : Nat) : Nat → Prop := fun a => (x + 271 ≤ a ∧ a ≤ x + 275) ∨ (x + 277 ≤ a ∧ a ≤ x + 279)
section CALLS1
variable {I0 I I2 I3 I5 : Nat → Nat → Int32} {J J2 : Nat → Nat → Int64} {L : hL} {x n sn dn ac fi tp sd c : Nat} {t : tl} {F : Int32 → hp → Prop} {G : hp → Prop} {X : Nat → hp → Prop} {d e z l : Nat} {ex : Bool}
theorem f1 (h : SX I0 I x n sn dn ac fi tp sd) (hs : same I I2 (scr x)) (hm : I2 (x + 271) = I (x + 271)) : FN I0 L x c J t (L, wr I2 (x + 271) 0 (nI c), J, t) :=
  fq h (fun a ha => by rw [wrM1 (by omega)]; exact hs a ha) (fun j hj => by rw [wrM2 (by omega), hm]) (wrH rfl rfl)
/-- a question: the class's part, thrown = 0, the model's part -/
theorem f2 (h : SX I0 I x n sn dn ac fi tp sd) (hs : same I I2 (scr x)) (hm : I2 (x + 271) = I (x + 271)) (hs3 : same (wr I2 (x + 271) 0 (nI 0)) I3 (mA x)) (h1 : I3 (x + 271 + 1) = I2 (x + 271 + 1)) (h4 : I3 (x + 271 + 4) = I2 (x + 271 + 4)) (hf : ∀ j, j < 20 ∨ j = 29 → I3 (x + 271) j = wr I2 (x + 271) 0 (nI 0) (x + 271) j) : FN I0 L x 0 J t (L, I3, J, t) :=
  fq h (fun a ha => by
    by_cases e1 : a = x + 271 + 1
    · rw [e1, h1]; exact hs _ (by omega)
    · by_cases e4 : a = x + 271 + 4
      · rw [e4, h4]; exact hs _ (by omega)
      · rw [hs3 a (by omega), wrM1 (by omega)]; exact hs a ha) (fun j hj => by rw [hf j (by omega), wrM2 (by omega), hm]) (by rw [hf 0 (by omega)]; exact wrH rfl rfl)
theorem fb {fi' s n' sn' dn' : Nat} (h : SX I0 I x n sn dn ac fi tp sd) (hC : KC I I3 x ac fi fi' s) (hs : same I I3 (cA x s)) (hs5 : same I3 I5 (mA x)) (hP : KP I I5 (x + 271) ac) (hf : ∀ j, j = 7 ∨ j = 16 ∨ j = 29 → I5 (x + 271) j = I3 (x + 271) j) (h0 : I5 (x + 271) 0 = nI 0) (hV : VL (bd I3 (x + 1 + 2)) n' sn' dn') (hR : Rel (I5 (x + 271 + 1)) (bd I3 (x + 1 + 2)) n' sn' dn') : FN I0 L x 0 J t (L, I5, J, t) := by
  have hs16 := hC.1
  have eb : bd I5 (x + 1 + 2) = bd I3 (x + 1 + 2) := bd_same fun a q1 q2 => hs5 a (by omega)
  refine fa h (hC.fr fun a q1 q2 => hs5 a (by omega)) hP (fun a ha => ?_) (fun j hj => (hf j hj).trans (congrFun (hs _ (by omega)) j)) h0 (by rw [eb]; exact hV) (by rw [eb]; exact hR)
  by_cases q : a < x + 271
  · rw [hs5 a (by omega)]
    exact hs a (by omega)
  · rw [hs5 a (by omega)]
    exact hs a (by omega)
theorem mp_kp (hK : LK L x) (h : SX I0 I x n sn dn ac fi tp sd) (h5 : I2 (x + 271) 5 = I (x + 271) 5) (h1 : I2 (x + 271 + 1) = I (x + 271 + 1)) (h4 : I2 (x + 271 + 4) = I (x + 271 + 4)) (k : ∀ I3, same I2 I3 (fun a => a = x + 271 ∨ a = x + 271 + 4) → (∀ j, j ≠ 5 → I3 (x + 271) j = I2 (x + 271) j) → KP I I3 (x + 271) ac → G (L, I3, J, t)) : cal (d + 1) 223 [.ref (x + 271)] (L, I2, J, t) (kV G X) := by
  obtain ⟨-, -, ⟨c1, c2, c3, c4, c5, c6⟩, -, -⟩ := h
  refine mp_keeps hK.m (h5.trans c3) c5 fun I3 q1 q2 q3 q4 q5 => k I3 q1 q2 ⟨q3, fun j hj => by rw [q4 j hj, h1], fun i hi j hj => by rw [q5 i hi j hj, h4]⟩
--facts LK_ hK, LM_ hK.m, LB_ hK.b
theorem P_fault (hK : LK L x) (h : SX I0 I x n sn dn ac fi tp sd) : PR I0 L x 14 193 9 9 d e [] I J z l ex := by
  refine e14 (t14_0 ?_)
  simp (disch := omega) only [vpT, nI_leI, nI_ltI, nI_eq, nleT, nleF, nltT, nltF, neqT, neqF, nI_add, pk_mul, subN, divN, nI_clamp, mI1, wrH, wrM1, wrM2, wrowH, wrowM, bI0, bI1, kIi, kVi, kRi, kLi, kIx, kVx, Option.some.injEq, exists_eq_left', true_and, and_true, true_implies, false_implies, implies_true, not_true_eq_false, not_false_eq_true, true_or, or_true, false_or, or_false, forall_eq, iteT, iteF, LK_ hK, LM_ hK.m, LB_ hK.b]
  refine ⟨I, J, rfl, fun J2 => e193 (t193_0 ?_)⟩
  simp (disch := omega) only [vpT, nI_leI, nI_ltI, nI_eq, nleT, nleF, nltT, nltF, neqT, neqF, nI_add, pk_mul, subN, divN, nI_clamp, mI1, wrH, wrM1, wrM2, wrowH, wrowM, bI0, bI1, kIi, kVi, kRi, kLi, kIx, kVx, Option.some.injEq, exists_eq_left', true_and, and_true, true_implies, false_implies, implies_true, not_true_eq_false, not_false_eq_true, true_or, or_true, false_or, or_false, forall_eq, iteT, iteF, LK_ hK, LM_ hK.m, LB_ hK.b]
  exact ⟨h.2.1.2.2.2.2.symm, f1 h same.rf rfl⟩
theorem P_planned {p : Int32} (hK : LK L x) (h : SX I0 I x n sn dn ac fi tp sd) : PR I0 L x 96 218 1 9 d e [.int p] I J z l ex := by
  have hn := h.n10
  have h0 : I (x + 1 + 2) 0 = nI n := h.n0
  have m0 : I (x + 271 + 1) 0 = nI n := h.m0
  refine e96 (t96_0 ?_)
  simp (disch := omega) only [vpT, nI_leI, nI_ltI, nI_eq, nleT, nleF, nltT, nltF, neqT, neqF, nI_add, pk_mul, subN, divN, nI_clamp, mI1, wrH, wrM1, wrM2, wrowH, wrowM, bI0, bI1, kIi, kVi, kRi, kLi, kIx, kVx, Option.some.injEq, exists_eq_left', true_and, and_true, true_implies, false_implies, implies_true, not_true_eq_false, not_false_eq_true, true_or, or_true, false_or, or_false, forall_eq, iteT, iteF, LK_ hK, LM_ hK.m, LB_ hK.b, h0]
  refine sp_checkElement (fun q => Or.inl ⟨rfl, I, J, rfl, fun J2 => e218 (t218_0 ?_)⟩) (fun q1 q2 => t96_14 ?_)
  · simp (disch := omega) only [vpT, nI_leI, nI_ltI, nI_eq, nleT, nleF, nltT, nltF, neqT, neqF, nI_add, pk_mul, subN, divN, nI_clamp, mI1, wrH, wrM1, wrM2, wrowH, wrowM, bI0, bI1, kIi, kVi, kRi, kLi, kIx, kVx, Option.some.injEq, exists_eq_left', true_and, and_true, true_implies, false_implies, implies_true, not_true_eq_false, not_false_eq_true, true_or, or_true, false_or, or_false, forall_eq, iteT, iteF, LK_ hK, LM_ hK.m, LB_ hK.b, m0]
    refine mp_elF (by omega) q (t218_21 ?_)
    simp (disch := omega) only [vpT, nI_leI, nI_ltI, nI_eq, nleT, nleF, nltT, nltF, neqT, neqF, nI_add, pk_mul, subN, divN, nI_clamp, mI1, wrH, wrM1, wrM2, wrowH, wrowM, bI0, bI1, kIi, kVi, kRi, kLi, kIx, kVx, Option.some.injEq, exists_eq_left', true_and, and_true, true_implies, false_implies, implies_true, not_true_eq_false, not_false_eq_true, true_or, or_true, false_or, or_false, forall_eq, iteT, iteF, LK_ hK, LM_ hK.m, LB_ hK.b]
    refine mp_rightF hK.m (wrH rfl rfl) (by decide) (by decide) (t218_25 ?_)
    simp (disch := omega) only [vpT, nI_leI, nI_ltI, nI_eq, nleT, nleF, nltT, nltF, neqT, neqF, nI_add, pk_mul, subN, divN, nI_clamp, mI1, wrH, wrM1, wrM2, wrowH, wrowM, bI0, bI1, kIi, kVi, kRi, kLi, kIx, kVx, Option.some.injEq, exists_eq_left', true_and, and_true, true_implies, false_implies, implies_true, not_true_eq_false, not_false_eq_true, true_or, or_true, false_or, or_false, forall_eq, iteT, iteF, LK_ hK, LM_ hK.m, LB_ hK.b]
    exact ff h same.rf rfl
  · obtain ⟨k, hk, rfl⟩ := i_lt (by omega) q1 q2
    simp (disch := omega) only [vpT, nI_leI, nI_ltI, nI_eq, nleT, nleF, nltT, nltF, neqT, neqF, nI_add, pk_mul, subN, divN, nI_clamp, mI1, wrH, wrM1, wrM2, wrowH, wrowM, bI0, bI1, kIi, kVi, kRi, kLi, kIx, kVx, Option.some.injEq, exists_eq_left', true_and, and_true, true_implies, false_implies, implies_true, not_true_eq_false, not_false_eq_true, true_or, or_true, false_or, or_false, forall_eq, iteT, iteF, LK_ hK, LM_ hK.m, LB_ hK.b]
    refine ⟨I, J, rfl, fun J2 => e218 (t218_0 ?_)⟩
    simp (disch := omega) only [vpT, nI_leI, nI_ltI, nI_eq, nleT, nleF, nltT, nltF, neqT, neqF, nI_add, pk_mul, subN, divN, nI_clamp, mI1, wrH, wrM1, wrM2, wrowH, wrowM, bI0, bI1, kIi, kVi, kRi, kLi, kIx, kVx, Option.some.injEq, exists_eq_left', true_and, and_true, true_implies, false_implies, implies_true, not_true_eq_false, not_false_eq_true, true_or, or_true, false_or, or_false, forall_eq, iteT, iteF, LK_ hK, LM_ hK.m, LB_ hK.b, m0]
    refine mp_elN hk (by omega) (t218_21 ?_)
    simp (disch := omega) only [vpT, nI_leI, nI_ltI, nI_eq, nleT, nleF, nltT, nltF, neqT, neqF, nI_add, pk_mul, subN, divN, nI_clamp, mI1, wrH, wrM1, wrM2, wrowH, wrowM, bI0, bI1, kIi, kVi, kRi, kLi, kIx, kVx, Option.some.injEq, exists_eq_left', true_and, and_true, true_implies, false_implies, implies_true, not_true_eq_false, not_false_eq_true, true_or, or_true, false_or, or_false, forall_eq, iteT, iteF, LK_ hK, LM_ hK.m, LB_ hK.b]
    refine mp_rightT hK.m (wrH rfl rfl) (t218_25 ?_)
    simp (disch := omega) only [vpT, nI_leI, nI_ltI, nI_eq, nleT, nleF, nltT, nltF, neqT, neqF, nI_add, pk_mul, subN, divN, nI_clamp, mI1, wrH, wrM1, wrM2, wrowH, wrowM, bI0, bI1, kIi, kVi, kRi, kLi, kIx, kVx, Option.some.injEq, exists_eq_left', true_and, and_true, true_implies, false_implies, implies_true, not_true_eq_false, not_false_eq_true, true_or, or_true, false_or, or_false, forall_eq, iteT, iteF, LK_ hK, LM_ hK.m, LB_ hK.b]
    exact ⟨(h.1.2.2.1 k hk).2.2.2.2, f1 h same.rf rfl⟩
theorem P_gap {p y : Int32} (hK : LK L x) (h : SX I0 I x n sn dn ac fi tp sd) : PR I0 L x 98 219 1 9 d e [.int p, .int y] I J z l ex := by
  refine e98 (t98_0 ?_)
  refine sp_checkElement (fun q => Or.inl ⟨rfl, I, J, rfl, fun J2 => e219 (t219_0 ?_)⟩) (fun q1 q2 => t98_6 ?_)
  · simp (disch := omega) only [vpT, nI_leI, nI_ltI, nI_eq, nleT, nleF, nltT, nltF, neqT, neqF, nI_add, pk_mul, subN, divN, nI_clamp, mI1, wrH, wrM1, wrM2, wrowH, wrowM, bI0, bI1, kIi, kVi, kRi, kLi, kIx, kVx, Option.some.injEq, exists_eq_left', true_and, and_true, true_implies, false_implies, implies_true, not_true_eq_false, not_false_eq_true, true_or, or_true, false_or, or_false, forall_eq, iteT, iteF, LK_ hK, LM_ hK.m, LB_ hK.b]
    refine mp_isSortF q (t219_10 ?_)
    simp (disch := omega) only [vpT, nI_leI, nI_ltI, nI_eq, nleT, nleF, nltT, nltF, neqT, neqF, nI_add, pk_mul, subN, divN, nI_clamp, mI1, wrH, wrM1, wrM2, wrowH, wrowM, bI0, bI1, kIi, kVi, kRi, kLi, kIx, kVx, Option.some.injEq, exists_eq_left', true_and, and_true, true_implies, false_implies, implies_true, not_true_eq_false, not_false_eq_true, true_or, or_true, false_or, or_false, forall_eq, iteT, iteF, LK_ hK, LM_ hK.m, LB_ hK.b]
    refine mp_rightF hK.m (wrH rfl rfl) (by decide) (by decide) (t219_29 ?_)
    simp (disch := omega) only [vpT, nI_leI, nI_ltI, nI_eq, nleT, nleF, nltT, nltF, neqT, neqF, nI_add, pk_mul, subN, divN, nI_clamp, mI1, wrH, wrM1, wrM2, wrowH, wrowM, bI0, bI1, kIi, kVi, kRi, kLi, kIx, kVx, Option.some.injEq, exists_eq_left', true_and, and_true, true_implies, false_implies, implies_true, not_true_eq_false, not_false_eq_true, true_or, or_true, false_or, or_false, forall_eq, iteT, iteF, LK_ hK, LM_ hK.m, LB_ hK.b]
    exact ff h same.rf rfl
  refine sp_checkElement (fun q => Or.inl ⟨rfl, I, J, rfl, fun J2 => e219 (t219_0 ?_)⟩) (fun q3 q4 => t98_12 ?_)
  · simp (disch := omega) only [vpT, nI_leI, nI_ltI, nI_eq, nleT, nleF, nltT, nltF, neqT, neqF, nI_add, pk_mul, subN, divN, nI_clamp, mI1, wrH, wrM1, wrM2, wrowH, wrowM, bI0, bI1, kIi, kVi, kRi, kLi, kIx, kVx, Option.some.injEq, exists_eq_left', true_and, and_true, true_implies, false_implies, implies_true, not_true_eq_false, not_false_eq_true, true_or, or_true, false_or, or_false, forall_eq, iteT, iteF, LK_ hK, LM_ hK.m, LB_ hK.b]
    refine mp_isSortT ⟨q1, q2⟩ (t219_10 ?_)
    simp (disch := omega) only [vpT, nI_leI, nI_ltI, nI_eq, nleT, nleF, nltT, nltF, neqT, neqF, nI_add, pk_mul, subN, divN, nI_clamp, mI1, wrH, wrM1, wrM2, wrowH, wrowM, bI0, bI1, kIi, kVi, kRi, kLi, kIx, kVx, Option.some.injEq, exists_eq_left', true_and, and_true, true_implies, false_implies, implies_true, not_true_eq_false, not_false_eq_true, true_or, or_true, false_or, or_false, forall_eq, iteT, iteF, LK_ hK, LM_ hK.m, LB_ hK.b]
    refine mp_isSortF q (t219_17 ?_)
    simp (disch := omega) only [vpT, nI_leI, nI_ltI, nI_eq, nleT, nleF, nltT, nltF, neqT, neqF, nI_add, pk_mul, subN, divN, nI_clamp, mI1, wrH, wrM1, wrM2, wrowH, wrowM, bI0, bI1, kIi, kVi, kRi, kLi, kIx, kVx, Option.some.injEq, exists_eq_left', true_and, and_true, true_implies, false_implies, implies_true, not_true_eq_false, not_false_eq_true, true_or, or_true, false_or, or_false, forall_eq, iteT, iteF, LK_ hK, LM_ hK.m, LB_ hK.b]
    refine mp_rightF hK.m (wrH rfl rfl) (by decide) (by decide) (t219_29 ?_)
    simp (disch := omega) only [vpT, nI_leI, nI_ltI, nI_eq, nleT, nleF, nltT, nltF, neqT, neqF, nI_add, pk_mul, subN, divN, nI_clamp, mI1, wrH, wrM1, wrM2, wrowH, wrowM, bI0, bI1, kIi, kVi, kRi, kLi, kIx, kVx, Option.some.injEq, exists_eq_left', true_and, and_true, true_implies, false_implies, implies_true, not_true_eq_false, not_false_eq_true, true_or, or_true, false_or, or_false, forall_eq, iteT, iteF, LK_ hK, LM_ hK.m, LB_ hK.b]
    exact ff h same.rf rfl
  · obtain ⟨k, hk, rfl⟩ := i_lt (by omega) q1 q2
    obtain ⟨k2, hk2, rfl⟩ := i_lt (by omega) q3 q4
    simp (disch := omega) only [vpT, nI_leI, nI_ltI, nI_eq, nleT, nleF, nltT, nltF, neqT, neqF, nI_add, pk_mul, subN, divN, nI_clamp, mI1, wrH, wrM1, wrM2, wrowH, wrowM, bI0, bI1, kIi, kVi, kRi, kLi, kIx, kVx, Option.some.injEq, exists_eq_left', true_and, and_true, true_implies, false_implies, implies_true, not_true_eq_false, not_false_eq_true, true_or, or_true, false_or, or_false, forall_eq, iteT, iteF, LK_ hK, LM_ hK.m, LB_ hK.b]
    refine ⟨I, J, rfl, fun J2 => e219 (t219_0 ?_)⟩
    simp (disch := omega) only [vpT, nI_leI, nI_ltI, nI_eq, nleT, nleF, nltT, nltF, neqT, neqF, nI_add, pk_mul, subN, divN, nI_clamp, mI1, wrH, wrM1, wrM2, wrowH, wrowM, bI0, bI1, kIi, kVi, kRi, kLi, kIx, kVx, Option.some.injEq, exists_eq_left', true_and, and_true, true_implies, false_implies, implies_true, not_true_eq_false, not_false_eq_true, true_or, or_true, false_or, or_false, forall_eq, iteT, iteF, LK_ hK, LM_ hK.m, LB_ hK.b]
    refine mp_isSortT ⟨q1, q2⟩ (t219_10 ?_)
    simp (disch := omega) only [vpT, nI_leI, nI_ltI, nI_eq, nleT, nleF, nltT, nltF, neqT, neqF, nI_add, pk_mul, subN, divN, nI_clamp, mI1, wrH, wrM1, wrM2, wrowH, wrowM, bI0, bI1, kIi, kVi, kRi, kLi, kIx, kVx, Option.some.injEq, exists_eq_left', true_and, and_true, true_implies, false_implies, implies_true, not_true_eq_false, not_false_eq_true, true_or, or_true, false_or, or_false, forall_eq, iteT, iteF, LK_ hK, LM_ hK.m, LB_ hK.b]
    refine mp_isSortT ⟨q3, q4⟩ (t219_17 ?_)
    simp (disch := omega) only [vpT, nI_leI, nI_ltI, nI_eq, nleT, nleF, nltT, nltF, neqT, neqF, nI_add, pk_mul, subN, divN, nI_clamp, mI1, wrH, wrM1, wrM2, wrowH, wrowM, bI0, bI1, kIi, kVi, kRi, kLi, kIx, kVx, Option.some.injEq, exists_eq_left', true_and, and_true, true_implies, false_implies, implies_true, not_true_eq_false, not_false_eq_true, true_or, or_true, false_or, or_false, forall_eq, iteT, iteF, LK_ hK, LM_ hK.m, LB_ hK.b]
    refine mp_rightT hK.m (wrH rfl rfl) (t219_29 ?_)
    simp (disch := omega) only [vpT, nI_leI, nI_ltI, nI_eq, nleT, nleF, nltT, nltF, neqT, neqF, nI_add, pk_mul, subN, divN, nI_clamp, mI1, wrH, wrM1, wrM2, wrowH, wrowM, bI0, bI1, kIi, kVi, kRi, kLi, kIx, kVx, Option.some.injEq, exists_eq_left', true_and, and_true, true_implies, false_implies, implies_true, not_true_eq_false, not_false_eq_true, true_or, or_true, false_or, or_false, forall_eq, iteT, iteF, LK_ hK, LM_ hK.m, LB_ hK.b]
    refine mp_gapOf (S := bd I (x + 1 + 2)) (n := n) (sn := sn) (dn := dn) hK.m (by rw [wrM1 (by omega)]; exact h.1.2) hk hk2 (t219_38 ?_)
    simp (disch := omega) only [vpT, nI_leI, nI_ltI, nI_eq, nleT, nleF, nltT, nltF, neqT, neqF, nI_add, pk_mul, subN, divN, nI_clamp, mI1, wrH, wrM1, wrM2, wrowH, wrowM, bI0, bI1, kIi, kVi, kRi, kLi, kIx, kVx, Option.some.injEq, exists_eq_left', true_and, and_true, true_implies, false_implies, implies_true, not_true_eq_false, not_false_eq_true, true_or, or_true, false_or, or_false, forall_eq, iteT, iteF, LK_ hK, LM_ hK.m, LB_ hK.b]
    exact ⟨rfl, f1 h same.rf rfl⟩
theorem P_closed {p : Int32} {en : Bool} (hK : LK L x) (h : SX I0 I x n sn dn ac fi tp sd) : PR I0 L x 100 221 1 9 d e [.int p, .int (bI en)] I J z l ex := by
  have hs4 := h.i.2.1.2
  have h0 : I (x + 1 + 2) 8 = nI sn := h.i.2.1.1
  have m0 : I (x + 271 + 1) 4 = nI sn := h.1.2.1.2.2.2.2.1
  refine e100 (t100_0 ?_)
  simp (disch := omega) only [vpT, nI_leI, nI_ltI, nI_eq, nleT, nleF, nltT, nltF, neqT, neqF, nI_add, pk_mul, subN, divN, nI_clamp, mI1, wrH, wrM1, wrM2, wrowH, wrowM, bI0, bI1, kIi, kVi, kRi, kLi, kIx, kVx, Option.some.injEq, exists_eq_left', true_and, and_true, true_implies, false_implies, implies_true, not_true_eq_false, not_false_eq_true, true_or, or_true, false_or, or_false, forall_eq, iteT, iteF, LK_ hK, LM_ hK.m, LB_ hK.b, h0]
  refine sp_checkElement (fun q => Or.inl ⟨rfl, I, J, rfl, fun J2 => e221 (t221_0 ?_)⟩) (fun q1 q2 => t100_14 ?_)
  · simp (disch := omega) only [vpT, nI_leI, nI_ltI, nI_eq, nleT, nleF, nltT, nltF, neqT, neqF, nI_add, pk_mul, subN, divN, nI_clamp, mI1, wrH, wrM1, wrM2, wrowH, wrowM, bI0, bI1, kIi, kVi, kRi, kLi, kIx, kVx, Option.some.injEq, exists_eq_left', true_and, and_true, true_implies, false_implies, implies_true, not_true_eq_false, not_false_eq_true, true_or, or_true, false_or, or_false, forall_eq, iteT, iteF, LK_ hK, LM_ hK.m, LB_ hK.b, m0]
    refine mp_elF (by omega) q (t221_21 ?_)
    simp (disch := omega) only [vpT, nI_leI, nI_ltI, nI_eq, nleT, nleF, nltT, nltF, neqT, neqF, nI_add, pk_mul, subN, divN, nI_clamp, mI1, wrH, wrM1, wrM2, wrowH, wrowM, bI0, bI1, kIi, kVi, kRi, kLi, kIx, kVx, Option.some.injEq, exists_eq_left', true_and, and_true, true_implies, false_implies, implies_true, not_true_eq_false, not_false_eq_true, true_or, or_true, false_or, or_false, forall_eq, iteT, iteF, LK_ hK, LM_ hK.m, LB_ hK.b]
    refine mp_rightF hK.m (wrH rfl rfl) (by decide) (by decide) (t221_25 ?_)
    simp (disch := omega) only [vpT, nI_leI, nI_ltI, nI_eq, nleT, nleF, nltT, nltF, neqT, neqF, nI_add, pk_mul, subN, divN, nI_clamp, mI1, wrH, wrM1, wrM2, wrowH, wrowM, bI0, bI1, kIi, kVi, kRi, kLi, kIx, kVx, Option.some.injEq, exists_eq_left', true_and, and_true, true_implies, false_implies, implies_true, not_true_eq_false, not_false_eq_true, true_or, or_true, false_or, or_false, forall_eq, iteT, iteF, LK_ hK, LM_ hK.m, LB_ hK.b]
    exact ff h same.rf rfl
  · obtain ⟨k, hk, rfl⟩ := i_lt (by omega) q1 q2
    have hR := h.1.2.2.2.2.1 k hk
    cases en with
    | false =>
      simp (disch := omega) only [vpT, nI_leI, nI_ltI, nI_eq, nleT, nleF, nltT, nltF, neqT, neqF, nI_add, pk_mul, subN, divN, nI_clamp, mI1, wrH, wrM1, wrM2, wrowH, wrowM, bI0, bI1, kIi, kVi, kRi, kLi, kIx, kVx, Option.some.injEq, exists_eq_left', true_and, and_true, true_implies, false_implies, implies_true, not_true_eq_false, not_false_eq_true, true_or, or_true, false_or, or_false, forall_eq, iteT, iteF, LK_ hK, LM_ hK.m, LB_ hK.b, bI_f]
      refine ⟨I, J, rfl, fun J2 => e221 (t221_0 ?_)⟩
      simp (disch := omega) only [vpT, nI_leI, nI_ltI, nI_eq, nleT, nleF, nltT, nltF, neqT, neqF, nI_add, pk_mul, subN, divN, nI_clamp, mI1, wrH, wrM1, wrM2, wrowH, wrowM, bI0, bI1, kIi, kVi, kRi, kLi, kIx, kVx, Option.some.injEq, exists_eq_left', true_and, and_true, true_implies, false_implies, implies_true, not_true_eq_false, not_false_eq_true, true_or, or_true, false_or, or_false, forall_eq, iteT, iteF, LK_ hK, LM_ hK.m, LB_ hK.b, m0]
      refine mp_elN hk (by omega) (t221_21 ?_)
      simp (disch := omega) only [vpT, nI_leI, nI_ltI, nI_eq, nleT, nleF, nltT, nltF, neqT, neqF, nI_add, pk_mul, subN, divN, nI_clamp, mI1, wrH, wrM1, wrM2, wrowH, wrowM, bI0, bI1, kIi, kVi, kRi, kLi, kIx, kVx, Option.some.injEq, exists_eq_left', true_and, and_true, true_implies, false_implies, implies_true, not_true_eq_false, not_false_eq_true, true_or, or_true, false_or, or_false, forall_eq, iteT, iteF, LK_ hK, LM_ hK.m, LB_ hK.b]
      refine mp_rightT hK.m (wrH rfl rfl) (t221_25 ?_)
      simp (disch := omega) only [vpT, nI_leI, nI_ltI, nI_eq, nleT, nleF, nltT, nltF, neqT, neqF, nI_add, pk_mul, subN, divN, nI_clamp, mI1, wrH, wrM1, wrM2, wrowH, wrowM, bI0, bI1, kIi, kVi, kRi, kLi, kIx, kVx, Option.some.injEq, exists_eq_left', true_and, and_true, true_implies, false_implies, implies_true, not_true_eq_false, not_false_eq_true, true_or, or_true, false_or, or_false, forall_eq, iteT, iteF, LK_ hK, LM_ hK.m, LB_ hK.b, bI_f]
      exact ⟨hR.1, f1 h same.rf rfl⟩
    | true =>
      simp (disch := omega) only [vpT, nI_leI, nI_ltI, nI_eq, nleT, nleF, nltT, nltF, neqT, neqF, nI_add, pk_mul, subN, divN, nI_clamp, mI1, wrH, wrM1, wrM2, wrowH, wrowM, bI0, bI1, kIi, kVi, kRi, kLi, kIx, kVx, Option.some.injEq, exists_eq_left', true_and, and_true, true_implies, false_implies, implies_true, not_true_eq_false, not_false_eq_true, true_or, or_true, false_or, or_false, forall_eq, iteT, iteF, LK_ hK, LM_ hK.m, LB_ hK.b, bI_t]
      refine ⟨I, J, rfl, fun J2 => e221 (t221_0 ?_)⟩
      simp (disch := omega) only [vpT, nI_leI, nI_ltI, nI_eq, nleT, nleF, nltT, nltF, neqT, neqF, nI_add, pk_mul, subN, divN, nI_clamp, mI1, wrH, wrM1, wrM2, wrowH, wrowM, bI0, bI1, kIi, kVi, kRi, kLi, kIx, kVx, Option.some.injEq, exists_eq_left', true_and, and_true, true_implies, false_implies, implies_true, not_true_eq_false, not_false_eq_true, true_or, or_true, false_or, or_false, forall_eq, iteT, iteF, LK_ hK, LM_ hK.m, LB_ hK.b, m0]
      refine mp_elN hk (by omega) (t221_21 ?_)
      simp (disch := omega) only [vpT, nI_leI, nI_ltI, nI_eq, nleT, nleF, nltT, nltF, neqT, neqF, nI_add, pk_mul, subN, divN, nI_clamp, mI1, wrH, wrM1, wrM2, wrowH, wrowM, bI0, bI1, kIi, kVi, kRi, kLi, kIx, kVx, Option.some.injEq, exists_eq_left', true_and, and_true, true_implies, false_implies, implies_true, not_true_eq_false, not_false_eq_true, true_or, or_true, false_or, or_false, forall_eq, iteT, iteF, LK_ hK, LM_ hK.m, LB_ hK.b]
      refine mp_rightT hK.m (wrH rfl rfl) (t221_25 ?_)
      simp (disch := omega) only [vpT, nI_leI, nI_ltI, nI_eq, nleT, nleF, nltT, nltF, neqT, neqF, nI_add, pk_mul, subN, divN, nI_clamp, mI1, wrH, wrM1, wrM2, wrowH, wrowM, bI0, bI1, kIi, kVi, kRi, kLi, kIx, kVx, Option.some.injEq, exists_eq_left', true_and, and_true, true_implies, false_implies, implies_true, not_true_eq_false, not_false_eq_true, true_or, or_true, false_or, or_false, forall_eq, iteT, iteF, LK_ hK, LM_ hK.m, LB_ hK.b, bI_t]
      exact ⟨hR.2, f1 h same.rf rfl⟩
theorem P_done {p y : Int32} (hK : LK L x) (h : SX I0 I x n sn dn ac fi tp sd) : PR I0 L x 160 254 1 9 d e [.int p, .int y] I J z l ex := by
  have hd20 := h.i.2.2.1.2
  have h0 : I (x + 1 + 2) 14 = nI dn := h.i.2.2.1.1
  have m0 : I (x + 271 + 1) 5 = nI dn := h.1.2.1.2.2.2.2.2
  refine e160 (t160_0 ?_)
  simp (disch := omega) only [vpT, nI_leI, nI_ltI, nI_eq, nleT, nleF, nltT, nltF, neqT, neqF, nI_add, pk_mul, subN, divN, nI_clamp, mI1, wrH, wrM1, wrM2, wrowH, wrowM, bI0, bI1, kIi, kVi, kRi, kLi, kIx, kVx, Option.some.injEq, exists_eq_left', true_and, and_true, true_implies, false_implies, implies_true, not_true_eq_false, not_false_eq_true, true_or, or_true, false_or, or_false, forall_eq, iteT, iteF, LK_ hK, LM_ hK.m, LB_ hK.b, h0]
  refine sp_checkElement (fun q => Or.inl ⟨rfl, I, J, rfl, fun J2 => e254 (t254_0 ?_)⟩) (fun q1 q2 => t160_16 ?_)
  · simp (disch := omega) only [vpT, nI_leI, nI_ltI, nI_eq, nleT, nleF, nltT, nltF, neqT, neqF, nI_add, pk_mul, subN, divN, nI_clamp, mI1, wrH, wrM1, wrM2, wrowH, wrowM, bI0, bI1, kIi, kVi, kRi, kLi, kIx, kVx, Option.some.injEq, exists_eq_left', true_and, and_true, true_implies, false_implies, implies_true, not_true_eq_false, not_false_eq_true, true_or, or_true, false_or, or_false, forall_eq, iteT, iteF, LK_ hK, LM_ hK.m, LB_ hK.b, m0]
    refine mp_elF (by omega) q (t254_21 ?_)
    simp (disch := omega) only [vpT, nI_leI, nI_ltI, nI_eq, nleT, nleF, nltT, nltF, neqT, neqF, nI_add, pk_mul, subN, divN, nI_clamp, mI1, wrH, wrM1, wrM2, wrowH, wrowM, bI0, bI1, kIi, kVi, kRi, kLi, kIx, kVx, Option.some.injEq, exists_eq_left', true_and, and_true, true_implies, false_implies, implies_true, not_true_eq_false, not_false_eq_true, true_or, or_true, false_or, or_false, forall_eq, iteT, iteF, LK_ hK, LM_ hK.m, LB_ hK.b]
    refine mp_rightF hK.m (wrH rfl rfl) (by decide) (by decide) (t254_45 ?_)
    simp (disch := omega) only [vpT, nI_leI, nI_ltI, nI_eq, nleT, nleF, nltT, nltF, neqT, neqF, nI_add, pk_mul, subN, divN, nI_clamp, mI1, wrH, wrM1, wrM2, wrowH, wrowM, bI0, bI1, kIi, kVi, kRi, kLi, kIx, kVx, Option.some.injEq, exists_eq_left', true_and, and_true, true_implies, false_implies, implies_true, not_true_eq_false, not_false_eq_true, true_or, or_true, false_or, or_false, forall_eq, iteT, iteF, LK_ hK, LM_ hK.m, LB_ hK.b]
    exact ff h same.rf rfl
  refine sp_checkElement (fun q => Or.inl ⟨rfl, I, J, rfl, fun J2 => e254 (t254_0 ?_)⟩) (fun q3 q4 => t160_21 ?_)
  · simp (disch := omega) only [vpT, nI_leI, nI_ltI, nI_eq, nleT, nleF, nltT, nltF, neqT, neqF, nI_add, pk_mul, subN, divN, nI_clamp, mI1, wrH, wrM1, wrM2, wrowH, wrowM, bI0, bI1, kIi, kVi, kRi, kLi, kIx, kVx, Option.some.injEq, exists_eq_left', true_and, and_true, true_implies, false_implies, implies_true, not_true_eq_false, not_false_eq_true, true_or, or_true, false_or, or_false, forall_eq, iteT, iteF, LK_ hK, LM_ hK.m, LB_ hK.b, m0]
    refine mp_elT (by omega) ⟨q1, q2⟩ (t254_21 ?_)
    simp (disch := omega) only [vpT, nI_leI, nI_ltI, nI_eq, nleT, nleF, nltT, nltF, neqT, neqF, nI_add, pk_mul, subN, divN, nI_clamp, mI1, wrH, wrM1, wrM2, wrowH, wrowM, bI0, bI1, kIi, kVi, kRi, kLi, kIx, kVx, Option.some.injEq, exists_eq_left', true_and, and_true, true_implies, false_implies, implies_true, not_true_eq_false, not_false_eq_true, true_or, or_true, false_or, or_false, forall_eq, iteT, iteF, LK_ hK, LM_ hK.m, LB_ hK.b]
    refine mp_inF (lo := nI 0) (hi := nI 2) rfl rfl (fun q' => q ⟨q'.1, (lt_le (by decide)).mpr q'.2⟩) (t254_33 ?_)
    simp (disch := omega) only [vpT, nI_leI, nI_ltI, nI_eq, nleT, nleF, nltT, nltF, neqT, neqF, nI_add, pk_mul, subN, divN, nI_clamp, mI1, wrH, wrM1, wrM2, wrowH, wrowM, bI0, bI1, kIi, kVi, kRi, kLi, kIx, kVx, Option.some.injEq, exists_eq_left', true_and, and_true, true_implies, false_implies, implies_true, not_true_eq_false, not_false_eq_true, true_or, or_true, false_or, or_false, forall_eq, iteT, iteF, LK_ hK, LM_ hK.m, LB_ hK.b]
    refine mp_rightF hK.m (wrH rfl rfl) (by decide) (by decide) (t254_45 ?_)
    simp (disch := omega) only [vpT, nI_leI, nI_ltI, nI_eq, nleT, nleF, nltT, nltF, neqT, neqF, nI_add, pk_mul, subN, divN, nI_clamp, mI1, wrH, wrM1, wrM2, wrowH, wrowM, bI0, bI1, kIi, kVi, kRi, kLi, kIx, kVx, Option.some.injEq, exists_eq_left', true_and, and_true, true_implies, false_implies, implies_true, not_true_eq_false, not_false_eq_true, true_or, or_true, false_or, or_false, forall_eq, iteT, iteF, LK_ hK, LM_ hK.m, LB_ hK.b]
    exact ff h same.rf rfl
  · obtain ⟨k, hk, rfl⟩ := i_lt (by omega) q1 q2
    obtain ⟨w, hw, rfl⟩ := i_lt (by omega) q3 q4
    have hR := h.1.2.2.2.2.2.1 k hk
    have go : ∀ v, I (x + 271 + 1) (128 + 3 * k + w) = v → MD I0 L x 254 e [.int (nI k), .int (nI w)] (fun r2 => r2 = v) 0 (z, l, ex) (L, I, J, z, l, ex) := by
      intro v hv
      refine ⟨I, J, rfl, fun J2 => e254 (t254_0 ?_)⟩
      simp (disch := omega) only [vpT, nI_leI, nI_ltI, nI_eq, nleT, nleF, nltT, nltF, neqT, neqF, nI_add, pk_mul, subN, divN, nI_clamp, mI1, wrH, wrM1, wrM2, wrowH, wrowM, bI0, bI1, kIi, kVi, kRi, kLi, kIx, kVx, Option.some.injEq, exists_eq_left', true_and, and_true, true_implies, false_implies, implies_true, not_true_eq_false, not_false_eq_true, true_or, or_true, false_or, or_false, forall_eq, iteT, iteF, LK_ hK, LM_ hK.m, LB_ hK.b, m0]
      refine mp_elN hk (by omega) (t254_21 ?_)
      simp (disch := omega) only [vpT, nI_leI, nI_ltI, nI_eq, nleT, nleF, nltT, nltF, neqT, neqF, nI_add, pk_mul, subN, divN, nI_clamp, mI1, wrH, wrM1, wrM2, wrowH, wrowM, bI0, bI1, kIi, kVi, kRi, kLi, kIx, kVx, Option.some.injEq, exists_eq_left', true_and, and_true, true_implies, false_implies, implies_true, not_true_eq_false, not_false_eq_true, true_or, or_true, false_or, or_false, forall_eq, iteT, iteF, LK_ hK, LM_ hK.m, LB_ hK.b]
      refine mp_inT (lo := nI 0) (hi := nI 2) rfl rfl ⟨q3, (lt_le (by decide)).mp q4⟩ (t254_33 ?_)
      simp (disch := omega) only [vpT, nI_leI, nI_ltI, nI_eq, nleT, nleF, nltT, nltF, neqT, neqF, nI_add, pk_mul, subN, divN, nI_clamp, mI1, wrH, wrM1, wrM2, wrowH, wrowM, bI0, bI1, kIi, kVi, kRi, kLi, kIx, kVx, Option.some.injEq, exists_eq_left', true_and, and_true, true_implies, false_implies, implies_true, not_true_eq_false, not_false_eq_true, true_or, or_true, false_or, or_false, forall_eq, iteT, iteF, LK_ hK, LM_ hK.m, LB_ hK.b]
      refine mp_rightT hK.m (wrH rfl rfl) (t254_45 ?_)
      simp (disch := omega) only [vpT, nI_leI, nI_ltI, nI_eq, nleT, nleF, nltT, nltF, neqT, neqF, nI_add, pk_mul, subN, divN, nI_clamp, mI1, wrH, wrM1, wrM2, wrowH, wrowM, bI0, bI1, kIi, kVi, kRi, kLi, kIx, kVx, Option.some.injEq, exists_eq_left', true_and, and_true, true_implies, false_implies, implies_true, not_true_eq_false, not_false_eq_true, true_or, or_true, false_or, or_false, forall_eq, iteT, iteF, LK_ hK, LM_ hK.m, LB_ hK.b]
      exact ⟨hv, f1 h same.rf rfl⟩
    have : w = 0 ∨ w = 1 ∨ w = 2 := by omega
    rcases this with rfl | rfl | rfl
    · simp (disch := omega) only [vpT, nI_leI, nI_ltI, nI_eq, nleT, nleF, nltT, nltF, neqT, neqF, nI_add, pk_mul, subN, divN, nI_clamp, mI1, wrH, wrM1, wrM2, wrowH, wrowM, bI0, bI1, kIi, kVi, kRi, kLi, kIx, kVx, Option.some.injEq, exists_eq_left', true_and, and_true, true_implies, false_implies, implies_true, not_true_eq_false, not_false_eq_true, true_or, or_true, false_or, or_false, forall_eq, iteT, iteF, LK_ hK, LM_ hK.m, LB_ hK.b, h0]
      exact go _ hR.1
    · simp (disch := omega) only [vpT, nI_leI, nI_ltI, nI_eq, nleT, nleF, nltT, nltF, neqT, neqF, nI_add, pk_mul, subN, divN, nI_clamp, mI1, wrH, wrM1, wrM2, wrowH, wrowM, bI0, bI1, kIi, kVi, kRi, kLi, kIx, kVx, Option.some.injEq, exists_eq_left', true_and, and_true, true_implies, false_implies, implies_true, not_true_eq_false, not_false_eq_true, true_or, or_true, false_or, or_false, forall_eq, iteT, iteF, LK_ hK, LM_ hK.m, LB_ hK.b, h0]
      exact go _ hR.2.1
    · simp (disch := omega) only [vpT, nI_leI, nI_ltI, nI_eq, nleT, nleF, nltT, nltF, neqT, neqF, nI_add, pk_mul, subN, divN, nI_clamp, mI1, wrH, wrM1, wrM2, wrowH, wrowM, bI0, bI1, kIi, kVi, kRi, kLi, kIx, kVx, Option.some.injEq, exists_eq_left', true_and, and_true, true_implies, false_implies, implies_true, not_true_eq_false, not_false_eq_true, true_or, or_true, false_or, or_false, forall_eq, iteT, iteF, LK_ hK, LM_ hK.m, LB_ hK.b, h0]
      exact go _ hR.2.2
theorem P_said {p : Int32} (hK : LK L x) (h : SX I0 I x n sn dn ac fi tp sd) : PR I0 L x 60 262 9 9 d e [.int p] I J z l ex := by
  obtain ⟨d1, d2, d3, d4⟩ := h.2.2.2.1
  have bad : ¬ (nI 0 ≤ p ∧ p < nI sd) → MD I0 L x 262 e [.int p] (fun r2 => r2 = -1) 0 (z, l, ex) (L, I, J, z, l, ex) := by
    intro q
    refine ⟨I, J, rfl, fun J2 => e262 (t262_0 ?_)⟩
    simp (disch := omega) only [vpT, nI_leI, nI_ltI, nI_eq, nleT, nleF, nltT, nltF, neqT, neqF, nI_add, pk_mul, subN, divN, nI_clamp, mI1, wrH, wrM1, wrM2, wrowH, wrowM, bI0, bI1, kIi, kVi, kRi, kLi, kIx, kVx, Option.some.injEq, exists_eq_left', true_and, and_true, true_implies, false_implies, implies_true, not_true_eq_false, not_false_eq_true, true_or, or_true, false_or, or_false, forall_eq, iteT, iteF, LK_ hK, LM_ hK.m, LB_ hK.b, d2]
    refine mp_elF (by omega) q (t262_18 ?_)
    simp (disch := omega) only [vpT, nI_leI, nI_ltI, nI_eq, nleT, nleF, nltT, nltF, neqT, neqF, nI_add, pk_mul, subN, divN, nI_clamp, mI1, wrH, wrM1, wrM2, wrowH, wrowM, bI0, bI1, kIi, kVi, kRi, kLi, kIx, kVx, Option.some.injEq, exists_eq_left', true_and, and_true, true_implies, false_implies, implies_true, not_true_eq_false, not_false_eq_true, true_or, or_true, false_or, or_false, forall_eq, iteT, iteF, LK_ hK, LM_ hK.m, LB_ hK.b]
    exact f1 h same.rf rfl
  refine e60 (t60_0 ?_)
  by_cases q1 : p < nI 0
  · simp only [q1, true_implies, not_true_eq_false, false_implies, and_true, kIi]
    exact bad fun q => absurd q.1 (Int32.not_le.mpr q1)
  · have q0 : nI 0 ≤ p := Int32.not_lt.mp q1
    simp only [q1, false_implies, true_and, not_false_eq_true, true_implies]
    simp (disch := omega) only [vpT, nI_leI, nI_ltI, nI_eq, nleT, nleF, nltT, nltF, neqT, neqF, nI_add, pk_mul, subN, divN, nI_clamp, mI1, wrH, wrM1, wrM2, wrowH, wrowM, bI0, bI1, kIi, kVi, kRi, kLi, kIx, kVx, Option.some.injEq, exists_eq_left', true_and, and_true, true_implies, false_implies, implies_true, not_true_eq_false, not_false_eq_true, true_or, or_true, false_or, or_false, forall_eq, iteT, iteF, LK_ hK, LM_ hK.m, LB_ hK.b, d1]
    refine ⟨fun q2 => bad fun q => absurd q.2 (Int32.not_lt.mpr q2), fun q2 => ?_⟩
    obtain ⟨k, hk, rfl⟩ := i_lt (by omega) q0 (Int32.not_le.mp q2)
    simp (disch := omega) only [vpT, nI_leI, nI_ltI, nI_eq, nleT, nleF, nltT, nltF, neqT, neqF, nI_add, pk_mul, subN, divN, nI_clamp, mI1, wrH, wrM1, wrM2, wrowH, wrowM, bI0, bI1, kIi, kVi, kRi, kLi, kIx, kVx, Option.some.injEq, exists_eq_left', true_and, and_true, true_implies, false_implies, implies_true, not_true_eq_false, not_false_eq_true, true_or, or_true, false_or, or_false, forall_eq, iteT, iteF, LK_ hK, LM_ hK.m, LB_ hK.b]
    refine ⟨I, J, rfl, fun J2 => e262 (t262_0 ?_)⟩
    simp (disch := omega) only [vpT, nI_leI, nI_ltI, nI_eq, nleT, nleF, nltT, nltF, neqT, neqF, nI_add, pk_mul, subN, divN, nI_clamp, mI1, wrH, wrM1, wrM2, wrowH, wrowM, bI0, bI1, kIi, kVi, kRi, kLi, kIx, kVx, Option.some.injEq, exists_eq_left', true_and, and_true, true_implies, false_implies, implies_true, not_true_eq_false, not_false_eq_true, true_or, or_true, false_or, or_false, forall_eq, iteT, iteF, LK_ hK, LM_ hK.m, LB_ hK.b, d2]
    refine mp_elN hk (by omega) (t262_18 ?_)
    simp (disch := omega) only [vpT, nI_leI, nI_ltI, nI_eq, nleT, nleF, nltT, nltF, neqT, neqF, nI_add, pk_mul, subN, divN, nI_clamp, mI1, wrH, wrM1, wrM2, wrowH, wrowM, bI0, bI1, kIi, kVi, kRi, kLi, kIx, kVx, Option.some.injEq, exists_eq_left', true_and, and_true, true_implies, false_implies, implies_true, not_true_eq_false, not_false_eq_true, true_or, or_true, false_or, or_false, forall_eq, iteT, iteF, LK_ hK, LM_ hK.m, LB_ hK.b]
    exact ⟨(d4 k hk).symm, f1 h same.rf rfl⟩
end CALLS1
