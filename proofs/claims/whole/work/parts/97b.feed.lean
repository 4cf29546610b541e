/-! The law's calls: feed. -/
def by4 (v : Int32) (k : Nat) : Int32 := (v >>> (nI (24 - 8 * k) &&& 31)).toInt8.toInt32.toInt8.toInt32
theorem by4_byt {v : Int32} {k : Nat} : byt (by4 v k) := by
  unfold byt by4
  have h1 := Int8.le_toInt ((v >>> (nI (24 - 8 * k) &&& 31)).toInt8.toInt32.toInt8)
  have h2 := Int8.toInt_lt ((v >>> (nI (24 - 8 * k) &&& 31)).toInt8.toInt32.toInt8)
  rw [Int8.toInt_toInt32]
  omega
/-- four bytes more on a tape -/
def FD (I I2 : Nat → Nat → Int32) (o r tp : Nat) (v : Int32) : Prop := same I I2 (fun a => a = o ∨ a = r) ∧ I2 o 7 = nI (tp + 4) ∧ (∀ j, j ≠ 7 → I2 o j = I o j) ∧ (∀ k, k < 4 → I2 r (tp + k) = by4 v k) ∧ ∀ k, k < tp ∨ tp + 4 ≤ k → I2 r k = I r k
theorem FD.eq {I I' K K' : Nat → Nat → Int32} {o r o' r' tp : Nat} {v : Int32} (hc : FD I I' o r tp v) (hm : FD K K' o' r' tp v) (e : ∀ k, k < 500 → I r k = K r' k ∧ byt (I r k)) : ∀ k, k < 500 → I' r k = K' r' k ∧ byt (I' r k) := by
  intro k hk
  by_cases q : k < tp ∨ tp + 4 ≤ k
  · rw [hc.2.2.2.2 k q, hm.2.2.2.2 k q]
    exact e k hk
  · obtain ⟨i, hi, rfl⟩ : ∃ i, i < 4 ∧ k = tp + i := ⟨k - tp, by omega, by omega⟩
    rw [hc.2.2.2.1 i hi, hm.2.2.2.1 i hi]
    exact ⟨rfl, by4_byt⟩
theorem s24 : nI 24 + (-8) = nI 16 := by decide
theorem s16 : nI 16 + (-8) = nI 8 := by decide
theorem s8 : nI 8 + (-8) = nI 0 := by decide
theorem s0 : nI 0 + (-8) = (-8 : Int32) := by decide
theorem m8lt : ((-8 : Int32) < nI 0) = True := eq_true (by decide)
section FEED
variable {I0 I I2 I3 I5 : Nat → Nat → Int32} {J J2 : Nat → Nat → Int64} {L : hL} {x n sn dn ac fi tp sd c : Nat} {t : tl} {F : Int32 → hp → Prop} {G : hp → Prop} {X : Nat → hp → Prop} {d e z l : Nat} {ex : Bool} {v : Int32}
--facts LK_ hK, LM_ hK.m, s24, s16, s8, s0, m8lt
theorem FD_mk {o r : Nat} (hor : o ≠ r) (h7 : I o 7 = nI tp) : FD I (wr (wr (wr (wr (wr (wr (wr (wr I r tp (by4 v 0)) o 7 (nI (tp + 1))) r (tp + 1) (by4 v 1)) o 7 (nI (tp + 1 + 1))) r (tp + 1 + 1) (by4 v 2)) o 7 (nI (tp + 1 + 1 + 1))) r (tp + 1 + 1 + 1) (by4 v 3)) o 7 (nI (tp + 1 + 1 + 1 + 1))) o r tp v := by
  have hro : r ≠ o := fun q => hor q.symm
  refine ⟨fun a ha => ?_, ?_, fun j hj => ?_, fun k hk => ?_, fun k hk => ?_⟩
  · have h1 : a ≠ o := fun q => ha (Or.inl q)
    have h2 : a ≠ r := fun q => ha (Or.inr q)
    simp only [wrM1 h1, wrM1 h2]
  · exact wrH rfl rfl
  · simp only [wrM2 hj, wrM1 hor]
  · have : k = 0 ∨ k = 1 ∨ k = 2 ∨ k = 3 := by omega
    rcases this with rfl | rfl | rfl | rfl
    · rw [wrM1 hro, wrM2 (by omega), wrM1 hro, wrM2 (by omega), wrM1 hro, wrM2 (by omega), wrM1 hro]; exact wrH rfl rfl
    · rw [wrM1 hro, wrM2 (by omega), wrM1 hro, wrM2 (by omega), wrM1 hro]; exact wrH rfl rfl
    · rw [wrM1 hro, wrM2 (by omega), wrM1 hro]; exact wrH rfl rfl
    · rw [wrM1 hro]; exact wrH rfl rfl
  · rw [wrM1 hro, wrM2 (by omega), wrM1 hro, wrM2 (by omega), wrM1 hro, wrM2 (by omega), wrM1 hro, wrM2 (by omega)]
theorem sp_feedNumber (hK : LK L x) (h7 : I x 7 = nI tp) (hl : tp + 4 ≤ 500) (k : ∀ I2, FD I I2 x (x + 56) tp v → G (L, I2, J, t)) : cal (d + 1) 13 [.ref x, .int v] (L, I, J, t) (kV G X) := by
  refine e13 (t13_0 (t13_3 ?_))
  simp (disch := omega) only [vpT, nI_leI, nI_ltI, nI_eq, nleT, nleF, nltT, nltF, neqT, neqF, nI_add, pk_mul, subN, divN, nI_clamp, mI1, wrH, wrM1, wrM2, wrowH, wrowM, bI0, bI1, kIi, kVi, kRi, kLi, kIx, kVx, Option.some.injEq, exists_eq_left', true_and, and_true, true_implies, false_implies, implies_true, not_true_eq_false, not_false_eq_true, true_or, or_true, false_or, or_false, forall_eq, iteT, iteF, LK_ hK, LM_ hK.m, s24, s16, s8, s0, m8lt, h7]
  refine t13_3 ?_
  simp (disch := omega) only [vpT, nI_leI, nI_ltI, nI_eq, nleT, nleF, nltT, nltF, neqT, neqF, nI_add, pk_mul, subN, divN, nI_clamp, mI1, wrH, wrM1, wrM2, wrowH, wrowM, bI0, bI1, kIi, kVi, kRi, kLi, kIx, kVx, Option.some.injEq, exists_eq_left', true_and, and_true, true_implies, false_implies, implies_true, not_true_eq_false, not_false_eq_true, true_or, or_true, false_or, or_false, forall_eq, iteT, iteF, LK_ hK, LM_ hK.m, s24, s16, s8, s0, m8lt, h7]
  refine t13_3 ?_
  simp (disch := omega) only [vpT, nI_leI, nI_ltI, nI_eq, nleT, nleF, nltT, nltF, neqT, neqF, nI_add, pk_mul, subN, divN, nI_clamp, mI1, wrH, wrM1, wrM2, wrowH, wrowM, bI0, bI1, kIi, kVi, kRi, kLi, kIx, kVx, Option.some.injEq, exists_eq_left', true_and, and_true, true_implies, false_implies, implies_true, not_true_eq_false, not_false_eq_true, true_or, or_true, false_or, or_false, forall_eq, iteT, iteF, LK_ hK, LM_ hK.m, s24, s16, s8, s0, m8lt, h7]
  refine t13_3 ?_
  simp (disch := omega) only [vpT, nI_leI, nI_ltI, nI_eq, nleT, nleF, nltT, nltF, neqT, neqF, nI_add, pk_mul, subN, divN, nI_clamp, mI1, wrH, wrM1, wrM2, wrowH, wrowM, bI0, bI1, kIi, kVi, kRi, kLi, kIx, kVx, Option.some.injEq, exists_eq_left', true_and, and_true, true_implies, false_implies, implies_true, not_true_eq_false, not_false_eq_true, true_or, or_true, false_or, or_false, forall_eq, iteT, iteF, LK_ hK, LM_ hK.m, s24, s16, s8, s0, m8lt, h7]
  refine t13_3 ?_
  simp (disch := omega) only [vpT, nI_leI, nI_ltI, nI_eq, nleT, nleF, nltT, nltF, neqT, neqF, nI_add, pk_mul, subN, divN, nI_clamp, mI1, wrH, wrM1, wrM2, wrowH, wrowM, bI0, bI1, kIi, kVi, kRi, kLi, kIx, kVx, Option.some.injEq, exists_eq_left', true_and, and_true, true_implies, false_implies, implies_true, not_true_eq_false, not_false_eq_true, true_or, or_true, false_or, or_false, forall_eq, iteT, iteF, LK_ hK, LM_ hK.m, s24, s16, s8, s0, m8lt, h7]
  exact k _ (FD_mk (by omega) h7)
theorem mp_comes (hK : LK L x) (h7 : I (x + 271) 7 = nI tp) (hl : tp + 4 ≤ 500) (k : ∀ I2, FD I I2 (x + 271) (x + 271 + 5) tp v → G (L, I2, J, t)) : cal (d + 1) 178 [.ref (x + 271), .int v] (L, I, J, t) (kV G X) := by
  refine e178 (t178_0 (t178_3 ?_))
  simp (disch := omega) only [vpT, nI_leI, nI_ltI, nI_eq, nleT, nleF, nltT, nltF, neqT, neqF, nI_add, pk_mul, subN, divN, nI_clamp, mI1, wrH, wrM1, wrM2, wrowH, wrowM, bI0, bI1, kIi, kVi, kRi, kLi, kIx, kVx, Option.some.injEq, exists_eq_left', true_and, and_true, true_implies, false_implies, implies_true, not_true_eq_false, not_false_eq_true, true_or, or_true, false_or, or_false, forall_eq, iteT, iteF, LK_ hK, LM_ hK.m, s24, s16, s8, s0, m8lt, h7]
  refine t178_3 ?_
  simp (disch := omega) only [vpT, nI_leI, nI_ltI, nI_eq, nleT, nleF, nltT, nltF, neqT, neqF, nI_add, pk_mul, subN, divN, nI_clamp, mI1, wrH, wrM1, wrM2, wrowH, wrowM, bI0, bI1, kIi, kVi, kRi, kLi, kIx, kVx, Option.some.injEq, exists_eq_left', true_and, and_true, true_implies, false_implies, implies_true, not_true_eq_false, not_false_eq_true, true_or, or_true, false_or, or_false, forall_eq, iteT, iteF, LK_ hK, LM_ hK.m, s24, s16, s8, s0, m8lt, h7]
  refine t178_3 ?_
  simp (disch := omega) only [vpT, nI_leI, nI_ltI, nI_eq, nleT, nleF, nltT, nltF, neqT, neqF, nI_add, pk_mul, subN, divN, nI_clamp, mI1, wrH, wrM1, wrM2, wrowH, wrowM, bI0, bI1, kIi, kVi, kRi, kLi, kIx, kVx, Option.some.injEq, exists_eq_left', true_and, and_true, true_implies, false_implies, implies_true, not_true_eq_false, not_false_eq_true, true_or, or_true, false_or, or_false, forall_eq, iteT, iteF, LK_ hK, LM_ hK.m, s24, s16, s8, s0, m8lt, h7]
  refine t178_3 ?_
  simp (disch := omega) only [vpT, nI_leI, nI_ltI, nI_eq, nleT, nleF, nltT, nltF, neqT, neqF, nI_add, pk_mul, subN, divN, nI_clamp, mI1, wrH, wrM1, wrM2, wrowH, wrowM, bI0, bI1, kIi, kVi, kRi, kLi, kIx, kVx, Option.some.injEq, exists_eq_left', true_and, and_true, true_implies, false_implies, implies_true, not_true_eq_false, not_false_eq_true, true_or, or_true, false_or, or_false, forall_eq, iteT, iteF, LK_ hK, LM_ hK.m, s24, s16, s8, s0, m8lt, h7]
  refine t178_3 ?_
  simp (disch := omega) only [vpT, nI_leI, nI_ltI, nI_eq, nleT, nleF, nltT, nltF, neqT, neqF, nI_add, pk_mul, subN, divN, nI_clamp, mI1, wrH, wrM1, wrM2, wrowH, wrowM, bI0, bI1, kIi, kVi, kRi, kLi, kIx, kVx, Option.some.injEq, exists_eq_left', true_and, and_true, true_implies, false_implies, implies_true, not_true_eq_false, not_false_eq_true, true_or, or_true, false_or, or_false, forall_eq, iteT, iteF, LK_ hK, LM_ hK.m, s24, s16, s8, s0, m8lt, h7]
  exact k _ (FD_mk (by omega) h7)
theorem P_feed {p1 p2 p3 p4 p5 : Int32} (hK : LK L x) (h : SX I0 I x n sn dn ac fi tp sd) : PR I0 L x 12 177 9 9 d e [.int p1, .int p2, .int p3, .int p4, .int p5] I J z l ex := by
  have h2 := h
  obtain ⟨⟨a1, a2⟩, ⟨b1, b2, b3, b4, b5⟩, ⟨c1, c2, c3, c4, c5, c6⟩, ⟨d1, d2, d3, d4⟩, e1⟩ := h2
  refine e12 (t12_0 ?_)
  by_cases hf : tp + 20 ≤ 500
  · simp (disch := omega) only [vpT, nI_leI, nI_ltI, nI_eq, nleT, nleF, nltT, nltF, neqT, neqF, nI_add, pk_mul, subN, divN, nI_clamp, mI1, wrH, wrM1, wrM2, wrowH, wrowM, bI0, bI1, kIi, kVi, kRi, kLi, kIx, kVx, Option.some.injEq, exists_eq_left', true_and, and_true, true_implies, false_implies, implies_true, not_true_eq_false, not_false_eq_true, true_or, or_true, false_or, or_false, forall_eq, iteT, iteF, LK_ hK, LM_ hK.m, s24, s16, s8, s0, m8lt, b1]
    refine sp_feedNumber hK b1 (by omega) fun I1 f1' => t12_20 ?_
    simp (disch := omega) only [vpT, nI_leI, nI_ltI, nI_eq, nleT, nleF, nltT, nltF, neqT, neqF, nI_add, pk_mul, subN, divN, nI_clamp, mI1, wrH, wrM1, wrM2, wrowH, wrowM, bI0, bI1, kIi, kVi, kRi, kLi, kIx, kVx, Option.some.injEq, exists_eq_left', true_and, and_true, true_implies, false_implies, implies_true, not_true_eq_false, not_false_eq_true, true_or, or_true, false_or, or_false, forall_eq, iteT, iteF, LK_ hK, LM_ hK.m, s24, s16, s8, s0, m8lt]
    refine sp_feedNumber hK f1'.2.1 (by omega) fun I2 f2' => t12_25 ?_
    simp (disch := omega) only [vpT, nI_leI, nI_ltI, nI_eq, nleT, nleF, nltT, nltF, neqT, neqF, nI_add, pk_mul, subN, divN, nI_clamp, mI1, wrH, wrM1, wrM2, wrowH, wrowM, bI0, bI1, kIi, kVi, kRi, kLi, kIx, kVx, Option.some.injEq, exists_eq_left', true_and, and_true, true_implies, false_implies, implies_true, not_true_eq_false, not_false_eq_true, true_or, or_true, false_or, or_false, forall_eq, iteT, iteF, LK_ hK, LM_ hK.m, s24, s16, s8, s0, m8lt]
    refine sp_feedNumber hK f2'.2.1 (by omega) fun I3 f3' => t12_30 ?_
    simp (disch := omega) only [vpT, nI_leI, nI_ltI, nI_eq, nleT, nleF, nltT, nltF, neqT, neqF, nI_add, pk_mul, subN, divN, nI_clamp, mI1, wrH, wrM1, wrM2, wrowH, wrowM, bI0, bI1, kIi, kVi, kRi, kLi, kIx, kVx, Option.some.injEq, exists_eq_left', true_and, and_true, true_implies, false_implies, implies_true, not_true_eq_false, not_false_eq_true, true_or, or_true, false_or, or_false, forall_eq, iteT, iteF, LK_ hK, LM_ hK.m, s24, s16, s8, s0, m8lt]
    refine sp_feedNumber hK f3'.2.1 (by omega) fun I4 f4' => t12_36 ?_
    simp (disch := omega) only [vpT, nI_leI, nI_ltI, nI_eq, nleT, nleF, nltT, nltF, neqT, neqF, nI_add, pk_mul, subN, divN, nI_clamp, mI1, wrH, wrM1, wrM2, wrowH, wrowM, bI0, bI1, kIi, kVi, kRi, kLi, kIx, kVx, Option.some.injEq, exists_eq_left', true_and, and_true, true_implies, false_implies, implies_true, not_true_eq_false, not_false_eq_true, true_or, or_true, false_or, or_false, forall_eq, iteT, iteF, LK_ hK, LM_ hK.m, s24, s16, s8, s0, m8lt]
    refine sp_feedNumber hK f4'.2.1 (by omega) fun I5 f5' => t12_42 ?_
    simp (disch := omega) only [vpT, nI_leI, nI_ltI, nI_eq, nleT, nleF, nltT, nltF, neqT, neqF, nI_add, pk_mul, subN, divN, nI_clamp, mI1, wrH, wrM1, wrM2, wrowH, wrowM, bI0, bI1, kIi, kVi, kRi, kLi, kIx, kVx, Option.some.injEq, exists_eq_left', true_and, and_true, true_implies, false_implies, implies_true, not_true_eq_false, not_false_eq_true, true_or, or_true, false_or, or_false, forall_eq, iteT, iteF, LK_ hK, LM_ hK.m, s24, s16, s8, s0, m8lt, f5'.2.1]
    have cs : ∀ a, a ≠ x → a ≠ x + 56 → I5 a = I a := fun a q1 q2 => by rw [f5'.1 a (by omega), f4'.1 a (by omega), f3'.1 a (by omega), f2'.1 a (by omega), f1'.1 a (by omega)]
    have c8 : I5 x 8 = I x 8 := by rw [f5'.2.2.1 8 (by omega), f4'.2.2.1 8 (by omega), f3'.2.2.1 8 (by omega), f2'.2.2.1 8 (by omega), f1'.2.2.1 8 (by omega)]
    refine ⟨I5, J, rfl, (by first | exact h.2.2.2.2 | exact fun a ha => (em a (Or.inr ha)).trans (h.2.2.2.2 a ha) | exact fun a ha => (em2 a (Or.inr ha)).trans (h.2.2.2.2 a ha) | exact fun a ha => (hs a (by omega)).trans (h.2.2.2.2 a ha) | exact fun a ha => (wrM1 (by omega)).trans ((em a (Or.inr ha)).trans (h.2.2.2.2 a ha)) | exact fun a ha => (e3 a (by omega)).trans ((em a (Or.inr ha)).trans (h.2.2.2.2 a ha)) | exact fun a ha => (cs a (by omega) (by omega)).trans (h.2.2.2.2 a ha) | exact fun a ha => (hs2 a (by omega)).trans (h.2.2.2.2 a ha) | exact fun a ha => (e3 a (by omega) (by omega)).trans (h.2.2.2.2 a ha) | exact fun a ha => (e3 a (by omega) (by omega) (by omega) (by omega)).trans (h.2.2.2.2 a ha) | exact fun a ha => (hs5 a (by omega)).trans ((hs4' a (by omega)).trans ((hs3' a (by omega)).trans ((hs2 a (by omega)).trans (h.2.2.2.2 a ha)))) | (intro a ha; (try rw [wrM1 (by omega)]); (try rw [hs6 a (by omega)]); (try rw [hs5 a (by omega)]); (try rw [e5 a (by omega)]); (try rw [hs4 a (by omega)]); (try rw [e4 a (by omega)]); (try rw [hs3 a (by omega)]); (try rw [e3 a (by omega)]); (try rw [wrM1 (by omega)]); (try rw [hs2 a (by omega)]); (try rw [e2 a (by omega)]); (try rw [em2 a (Or.inr ha)]); (try rw [cs a (by omega) (by omega)]); (try rw [hs1 a (by omega)]); (try rw [hs a (by omega)]); (try rw [em a (Or.inr ha)]); exact h.2.2.2.2 a ha)), fun J2 => e177 (t177_0 ?_)⟩
    have m7 : I5 (x + 271) 7 = nI tp := by rw [cs _ (by omega) (by omega)]; exact b2
    simp (disch := omega) only [vpT, nI_leI, nI_ltI, nI_eq, nleT, nleF, nltT, nltF, neqT, neqF, nI_add, pk_mul, subN, divN, nI_clamp, mI1, wrH, wrM1, wrM2, wrowH, wrowM, bI0, bI1, kIi, kVi, kRi, kLi, kIx, kVx, Option.some.injEq, exists_eq_left', true_and, and_true, true_implies, false_implies, implies_true, not_true_eq_false, not_false_eq_true, true_or, or_true, false_or, or_false, forall_eq, iteT, iteF, LK_ hK, LM_ hK.m, s24, s16, s8, s0, m8lt, m7]
    refine mp_comes hK (tp := tp) (by rw [wrM2 (by omega)]; exact m7) (by omega) fun K1 g1 => t177_25 ?_
    simp (disch := omega) only [vpT, nI_leI, nI_ltI, nI_eq, nleT, nleF, nltT, nltF, neqT, neqF, nI_add, pk_mul, subN, divN, nI_clamp, mI1, wrH, wrM1, wrM2, wrowH, wrowM, bI0, bI1, kIi, kVi, kRi, kLi, kIx, kVx, Option.some.injEq, exists_eq_left', true_and, and_true, true_implies, false_implies, implies_true, not_true_eq_false, not_false_eq_true, true_or, or_true, false_or, or_false, forall_eq, iteT, iteF, LK_ hK, LM_ hK.m, s24, s16, s8, s0, m8lt]
    refine mp_comes hK g1.2.1 (by omega) fun K2 g2 => t177_30 ?_
    simp (disch := omega) only [vpT, nI_leI, nI_ltI, nI_eq, nleT, nleF, nltT, nltF, neqT, neqF, nI_add, pk_mul, subN, divN, nI_clamp, mI1, wrH, wrM1, wrM2, wrowH, wrowM, bI0, bI1, kIi, kVi, kRi, kLi, kIx, kVx, Option.some.injEq, exists_eq_left', true_and, and_true, true_implies, false_implies, implies_true, not_true_eq_false, not_false_eq_true, true_or, or_true, false_or, or_false, forall_eq, iteT, iteF, LK_ hK, LM_ hK.m, s24, s16, s8, s0, m8lt]
    refine mp_comes hK g2.2.1 (by omega) fun K3 g3 => t177_35 ?_
    simp (disch := omega) only [vpT, nI_leI, nI_ltI, nI_eq, nleT, nleF, nltT, nltF, neqT, neqF, nI_add, pk_mul, subN, divN, nI_clamp, mI1, wrH, wrM1, wrM2, wrowH, wrowM, bI0, bI1, kIi, kVi, kRi, kLi, kIx, kVx, Option.some.injEq, exists_eq_left', true_and, and_true, true_implies, false_implies, implies_true, not_true_eq_false, not_false_eq_true, true_or, or_true, false_or, or_false, forall_eq, iteT, iteF, LK_ hK, LM_ hK.m, s24, s16, s8, s0, m8lt]
    refine mp_comes hK g3.2.1 (by omega) fun K4 g4 => t177_41 ?_
    simp (disch := omega) only [vpT, nI_leI, nI_ltI, nI_eq, nleT, nleF, nltT, nltF, neqT, neqF, nI_add, pk_mul, subN, divN, nI_clamp, mI1, wrH, wrM1, wrM2, wrowH, wrowM, bI0, bI1, kIi, kVi, kRi, kLi, kIx, kVx, Option.some.injEq, exists_eq_left', true_and, and_true, true_implies, false_implies, implies_true, not_true_eq_false, not_false_eq_true, true_or, or_true, false_or, or_false, forall_eq, iteT, iteF, LK_ hK, LM_ hK.m, s24, s16, s8, s0, m8lt]
    refine mp_comes hK g4.2.1 (by omega) fun K5 g5 => t177_47 ?_
    simp (disch := omega) only [vpT, nI_leI, nI_ltI, nI_eq, nleT, nleF, nltT, nltF, neqT, neqF, nI_add, pk_mul, subN, divN, nI_clamp, mI1, wrH, wrM1, wrM2, wrowH, wrowM, bI0, bI1, kIi, kVi, kRi, kLi, kIx, kVx, Option.some.injEq, exists_eq_left', true_and, and_true, true_implies, false_implies, implies_true, not_true_eq_false, not_false_eq_true, true_or, or_true, false_or, or_false, forall_eq, iteT, iteF, LK_ hK, LM_ hK.m, s24, s16, s8, s0, m8lt, g5.2.1]
    have ms' : ∀ a, a ≠ x + 271 → a ≠ x + 271 + 5 → K5 a = I5 a := fun a q1 q2 => by rw [g5.1 a (by omega), g4.1 a (by omega), g3.1 a (by omega), g2.1 a (by omega), g1.1 a (by omega), wrM1 q1]
    have mf : ∀ j, j ≠ 7 → j ≠ 0 → K5 (x + 271) j = I (x + 271) j := fun j hj h0 => by rw [g5.2.2.1 j hj, g4.2.2.1 j hj, g3.2.2.1 j hj, g2.2.2.1 j hj, g1.2.2.1 j hj, wrM2 h0, cs _ (by omega) (by omega)]
    have m0 : K5 (x + 271) 0 = nI 0 := by rw [g5.2.2.1 0 (by omega), g4.2.2.1 0 (by omega), g3.2.2.1 0 (by omega), g2.2.2.1 0 (by omega), g1.2.2.1 0 (by omega)]; exact wrH rfl rfl
    have all : ∀ a, a ≠ x → a ≠ x + 56 → a ≠ x + 271 → a ≠ x + 271 + 5 → K5 a = I a := fun a q1 q2 q3 q4 => by rw [ms' a q3 q4, cs a q1 q2]
    have tape := f5'.eq g5 (f4'.eq g4 (f3'.eq g3 (f2'.eq g2 (f1'.eq (K := wr I5 (x + 271) 0 (nI 0)) g1 (fun k hk => by rw [wrM1 (by omega), cs _ (by omega) (by omega)]; exact b4 k hk)))))
    have eb : bd K5 (x + 1 + 2) = bd I (x + 1 + 2) := bd_same fun a r1 r2 => all a (by omega) (by omega) (by omega) (by omega)
    refine ⟨K5, J2, rfl, m0, rfl, n, sn, dn, ac, fi, tp + 20, sd, ⟨?_, ?_⟩, ⟨?_, ?_, hf, fun k hk => ?_, ?_⟩, ⟨?_, ?_, ?_, c4, c5, ?_⟩, ⟨?_, ?_, d3, fun k hk => ?_⟩, fun a ha => ?_⟩
    · rw [eb]; exact a1
    · rw [eb, all _ (by omega) (by omega) (by omega) (by omega)]; exact a2
    · rw [ms' x (by omega) (by omega)]; exact f5'.2.1
    · exact g5.2.1
    · rw [ms' (x + 56) (by omega) (by omega)]; exact tape k hk
    · rw [ms' x (by omega) (by omega), c8, mf 16 (by omega) (by omega)]; exact b5
    · rw [all _ (by omega) (by omega) (by omega) (by omega)]; exact c1
    · rw [all _ (by omega) (by omega) (by omega) (by omega)]; exact c2
    · rw [mf 5 (by omega) (by omega)]; exact c3
    · exact c6.fr (fun a r1 r2 => all a (by omega) (by omega) (by omega) (by omega)) (all _ (by omega) (by omega) (by omega) (by omega))
    · rw [all _ (by omega) (by omega) (by omega) (by omega)]; exact d1
    · rw [mf 29 (by omega) (by omega)]; exact d2
    · rw [all _ (by omega) (by omega) (by omega) (by omega), all _ (by omega) (by omega) (by omega) (by omega)]; exact d4 k hk
    · rw [all a (by omega) (by omega) (by omega) (by omega)]; exact e1 a ha
  · simp (disch := omega) only [vpT, nI_leI, nI_ltI, nI_eq, nleT, nleF, nltT, nltF, neqT, neqF, nI_add, pk_mul, subN, divN, nI_clamp, mI1, wrH, wrM1, wrM2, wrowH, wrowM, bI0, bI1, kIi, kVi, kRi, kLi, kIx, kVx, Option.some.injEq, exists_eq_left', true_and, and_true, true_implies, false_implies, implies_true, not_true_eq_false, not_false_eq_true, true_or, or_true, false_or, or_false, forall_eq, iteT, iteF, LK_ hK, LM_ hK.m, s24, s16, s8, s0, m8lt, b1]
    refine ⟨I, J, rfl, (by first | exact h.2.2.2.2 | exact fun a ha => (em a (Or.inr ha)).trans (h.2.2.2.2 a ha) | exact fun a ha => (em2 a (Or.inr ha)).trans (h.2.2.2.2 a ha) | exact fun a ha => (hs a (by omega)).trans (h.2.2.2.2 a ha) | exact fun a ha => (wrM1 (by omega)).trans ((em a (Or.inr ha)).trans (h.2.2.2.2 a ha)) | exact fun a ha => (e3 a (by omega)).trans ((em a (Or.inr ha)).trans (h.2.2.2.2 a ha)) | exact fun a ha => (cs a (by omega) (by omega)).trans (h.2.2.2.2 a ha) | exact fun a ha => (hs2 a (by omega)).trans (h.2.2.2.2 a ha) | exact fun a ha => (e3 a (by omega) (by omega)).trans (h.2.2.2.2 a ha) | exact fun a ha => (e3 a (by omega) (by omega) (by omega) (by omega)).trans (h.2.2.2.2 a ha) | exact fun a ha => (hs5 a (by omega)).trans ((hs4' a (by omega)).trans ((hs3' a (by omega)).trans ((hs2 a (by omega)).trans (h.2.2.2.2 a ha)))) | (intro a ha; (try rw [wrM1 (by omega)]); (try rw [hs6 a (by omega)]); (try rw [hs5 a (by omega)]); (try rw [e5 a (by omega)]); (try rw [hs4 a (by omega)]); (try rw [e4 a (by omega)]); (try rw [hs3 a (by omega)]); (try rw [e3 a (by omega)]); (try rw [wrM1 (by omega)]); (try rw [hs2 a (by omega)]); (try rw [e2 a (by omega)]); (try rw [em2 a (Or.inr ha)]); (try rw [cs a (by omega) (by omega)]); (try rw [hs1 a (by omega)]); (try rw [hs a (by omega)]); (try rw [em a (Or.inr ha)]); exact h.2.2.2.2 a ha)), fun J2 => e177 (t177_0 ?_)⟩
    simp (disch := omega) only [vpT, nI_leI, nI_ltI, nI_eq, nleT, nleF, nltT, nltF, neqT, neqF, nI_add, pk_mul, subN, divN, nI_clamp, mI1, wrH, wrM1, wrM2, wrowH, wrowM, bI0, bI1, kIi, kVi, kRi, kLi, kIx, kVx, Option.some.injEq, exists_eq_left', true_and, and_true, true_implies, false_implies, implies_true, not_true_eq_false, not_false_eq_true, true_or, or_true, false_or, or_false, forall_eq, iteT, iteF, LK_ hK, LM_ hK.m, s24, s16, s8, s0, m8lt, b2]
    exact f1 h same.rf rfl
end FEED
