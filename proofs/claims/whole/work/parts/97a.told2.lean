/-! The law's calls: told, tell, feed. -/
section CALLS12
variable {I0 I I2 I3 I5 : Nat → Nat → Int32} {J J2 : Nat → Nat → Int64} {L : hL} {x n sn dn ac fi tp sd c : Nat} {t : tl} {F : Int32 → hp → Prop} {G : hp → Prop} {X : Nat → hp → Prop} {d e z l : Nat} {ex : Bool}
--facts LK_ hK, LM_ hK.m, LB_ hK.b
theorem P_told {y : Int64} {p2 : Int32} (hK : LK L x) (h : SX I0 I x n sn dn ac fi tp sd) : PR I0 L x 149 239 0 1 d e [.long y, .int p2] I J z l ex := by
  have hn := h.n10
  have hol := BI_or h.i
  have hfz := frz_le (S := bd I (x + 1 + 2)) (n := n)
  obtain ⟨sh, hs3, hsh⟩ := h.v.2.2.2.2
  refine e149 (t149_0 ?_)
  simp (disch := omega) only [vpT, nI_leI, nI_ltI, nI_eq, nleT, nleF, nltT, nltF, neqT, neqF, nI_add, pk_mul, subN, divN, nI_clamp, mI1, wrH, wrM1, wrM2, wrowH, wrowM, bI0, bI1, kIi, kVi, kRi, kLi, kIx, kVx, Option.some.injEq, exists_eq_left', true_and, and_true, true_implies, false_implies, implies_true, not_true_eq_false, not_false_eq_true, true_or, or_true, false_or, or_false, forall_eq, iteT, iteF, LK_ hK, LM_ hK.m, LB_ hK.b]
  refine sp_checkOrder hK h (fun g I2 hs2 => Or.inl ⟨rfl, (by unfold NE9; decide), I2, J, rfl, (by first | exact h.2.2.2.2 | exact fun a ha => (em a (Or.inr ha)).trans (h.2.2.2.2 a ha) | exact fun a ha => (em2 a (Or.inr ha)).trans (h.2.2.2.2 a ha) | exact fun a ha => (hs a (by omega)).trans (h.2.2.2.2 a ha) | exact fun a ha => (wrM1 (by omega)).trans ((em a (Or.inr ha)).trans (h.2.2.2.2 a ha)) | exact fun a ha => (e3 a (by omega)).trans ((em a (Or.inr ha)).trans (h.2.2.2.2 a ha)) | exact fun a ha => (cs a (by omega) (by omega)).trans (h.2.2.2.2 a ha) | exact fun a ha => (hs2 a (by omega)).trans (h.2.2.2.2 a ha) | exact fun a ha => (e3 a (by omega) (by omega)).trans (h.2.2.2.2 a ha) | exact fun a ha => (e3 a (by omega) (by omega) (by omega) (by omega)).trans (h.2.2.2.2 a ha) | exact fun a ha => (hs5 a (by omega)).trans ((hs4' a (by omega)).trans ((hs3' a (by omega)).trans ((hs2 a (by omega)).trans (h.2.2.2.2 a ha))))), fun J2 => e239 (t239_0 ?_)⟩) (fun g I2 hs2 hr2 => t149_5 ?_)
  · simp (disch := omega) only [vpT, nI_leI, nI_ltI, nI_eq, nleT, nleF, nltT, nltF, neqT, neqF, nI_add, pk_mul, subN, divN, nI_clamp, mI1, wrH, wrM1, wrM2, wrowH, wrowM, bI0, bI1, kIi, kVi, kRi, kLi, kIx, kVx, Option.some.injEq, exists_eq_left', true_and, and_true, true_implies, false_implies, implies_true, not_true_eq_false, not_false_eq_true, true_or, or_true, false_or, or_false, forall_eq, iteT, iteF, LK_ hK, LM_ hK.m, LB_ hK.b]
    refine mp_laysTold hK hn (by rw [wrM1 (by omega), hs2 _ (by omega)]; exact h.m0) (fun _ I3 hs3' => t239_11 ?_) (fun g2 => absurd g2 g)
    simp (disch := omega) only [vpT, nI_leI, nI_ltI, nI_eq, nleT, nleF, nltT, nltF, neqT, neqF, nI_add, pk_mul, subN, divN, nI_clamp, mI1, wrH, wrM1, wrM2, wrowH, wrowM, bI0, bI1, kIi, kVi, kRi, kLi, kIx, kVx, Option.some.injEq, exists_eq_left', true_and, and_true, true_implies, false_implies, implies_true, not_true_eq_false, not_false_eq_true, true_or, or_true, false_or, or_false, forall_eq, iteT, iteF, LK_ hK, LM_ hK.m, LB_ hK.b]
    refine mp_rightF hK.m (by rw [hs3' _ (by omega)]; exact wrH rfl rfl) (by decide) (by decide) (t239_15 ?_)
    simp (disch := omega) only [vpT, nI_leI, nI_ltI, nI_eq, nleT, nleF, nltT, nltF, neqT, neqF, nI_add, pk_mul, subN, divN, nI_clamp, mI1, wrH, wrM1, wrM2, wrowH, wrowM, bI0, bI1, kIi, kVi, kRi, kLi, kIx, kVx, Option.some.injEq, exists_eq_left', true_and, and_true, true_implies, false_implies, implies_true, not_true_eq_false, not_false_eq_true, true_or, or_true, false_or, or_false, forall_eq, iteT, iteF, LK_ hK, LM_ hK.m, LB_ hK.b]
    exact fq h (fun a ha => by rw [wrM1 (by omega), hs3' a (by omega), wrM1 (by omega), hs2 a (by omega)]) (fun j hj => by rw [wrM2 (by omega), hs3' _ (by omega), wrM2 (by omega), hs2 _ (by omega)]) (wrH rfl rfl)
  have em2 : ∀ a, x + 271 ≤ a ∨ a < x → I2 a = I a := fun a ha => hs2 a (by omega)
  have eb2 : bd I2 (x + 1 + 2) = bd I (x + 1 + 2) := hs2.bd fun a r1 r2 => by omega
  have go : ∀ p, p < n → dg y.toInt.toNat (n - 1 - p) < n := fun p hp => g.2.1 _ (by omega)
  have pre : ∀ I3 J2 t F, (∀ a, x + 271 ≤ a ∨ a < x → I3 a = I a) → (∀ I4, same (wr I3 (x + 271) 0 (nI 0)) I4 (fun a => a = x + 271 + 6) → ROW (I4 (x + 271 + 6)) (fun p => dg y.toInt.toNat (n - 1 - p)) n → I4 (x + 271) 0 = nI 0 → Wp (cal (e + 39)) kc_239 [] F (15, [some (.ref (x + 271)), some (.long y), none, some (.int p2), none], [.int (nI 1)], (L, I4, J2, t))) → cal (e + 40) 239 [.ref (x + 271), .long y, .int p2] (L, I3, J2, t) F := by
    intro I3 J2 t F em kk
    refine e239 (t239_0 ?_)
    simp (disch := omega) only [vpT, nI_leI, nI_ltI, nI_eq, nleT, nleF, nltT, nltF, neqT, neqF, nI_add, pk_mul, subN, divN, nI_clamp, mI1, wrH, wrM1, wrM2, wrowH, wrowM, bI0, bI1, kIi, kVi, kRi, kLi, kIx, kVx, Option.some.injEq, exists_eq_left', true_and, and_true, true_implies, false_implies, implies_true, not_true_eq_false, not_false_eq_true, true_or, or_true, false_or, or_false, forall_eq, iteT, iteF, LK_ hK, LM_ hK.m, LB_ hK.b]
    refine mp_laysTold hK hn (by rw [wrM1 (by omega), em _ (by omega)]; exact h.m0) (fun g2 => absurd g g2) (fun _ I4 hs4 hr4 => t239_11 ?_)
    have e0 : I4 (x + 271) 0 = nI 0 := by rw [hs4 _ (by omega)]; exact wrH rfl rfl
    simp (disch := omega) only [vpT, nI_leI, nI_ltI, nI_eq, nleT, nleF, nltT, nltF, neqT, neqF, nI_add, pk_mul, subN, divN, nI_clamp, mI1, wrH, wrM1, wrM2, wrowH, wrowM, bI0, bI1, kIi, kVi, kRi, kLi, kIx, kVx, Option.some.injEq, exists_eq_left', true_and, and_true, true_implies, false_implies, implies_true, not_true_eq_false, not_false_eq_true, true_or, or_true, false_or, or_false, forall_eq, iteT, iteF, LK_ hK, LM_ hK.m, LB_ hK.b]
    exact mp_rightT hK.m e0 (kk I4 hs4 hr4 e0)
  refine sp_checkElement (fun q => Or.inr ⟨rfl, (by unfold NE9; decide), I2, J, rfl, (by first | exact h.2.2.2.2 | exact fun a ha => (em a (Or.inr ha)).trans (h.2.2.2.2 a ha) | exact fun a ha => (em2 a (Or.inr ha)).trans (h.2.2.2.2 a ha) | exact fun a ha => (hs a (by omega)).trans (h.2.2.2.2 a ha) | exact fun a ha => (wrM1 (by omega)).trans ((em a (Or.inr ha)).trans (h.2.2.2.2 a ha)) | exact fun a ha => (e3 a (by omega)).trans ((em a (Or.inr ha)).trans (h.2.2.2.2 a ha)) | exact fun a ha => (cs a (by omega) (by omega)).trans (h.2.2.2.2 a ha) | exact fun a ha => (hs2 a (by omega)).trans (h.2.2.2.2 a ha) | exact fun a ha => (e3 a (by omega) (by omega)).trans (h.2.2.2.2 a ha) | exact fun a ha => (e3 a (by omega) (by omega) (by omega) (by omega)).trans (h.2.2.2.2 a ha) | exact fun a ha => (hs5 a (by omega)).trans ((hs4' a (by omega)).trans ((hs3' a (by omega)).trans ((hs2 a (by omega)).trans (h.2.2.2.2 a ha))))), fun J2 => pre _ _ _ _ em2 fun I4 hs4 hr4 e0 => t239_15 ?_⟩) (fun q3 q4 => t149_10 ?_)
  · simp (disch := omega) only [vpT, nI_leI, nI_ltI, nI_eq, nleT, nleF, nltT, nltF, neqT, neqF, nI_add, pk_mul, subN, divN, nI_clamp, mI1, wrH, wrM1, wrM2, wrowH, wrowM, bI0, bI1, kIi, kVi, kRi, kLi, kIx, kVx, Option.some.injEq, exists_eq_left', true_and, and_true, true_implies, false_implies, implies_true, not_true_eq_false, not_false_eq_true, true_or, or_true, false_or, or_false, forall_eq, iteT, iteF, LK_ hK, LM_ hK.m, LB_ hK.b]
    refine mp_inF (lo := nI 0) (hi := nI 3) rfl rfl (fun q' => q ⟨q'.1, (lt_le (by decide)).mpr q'.2⟩) (t239_28 ?_)
    simp (disch := omega) only [vpT, nI_leI, nI_ltI, nI_eq, nleT, nleF, nltT, nltF, neqT, neqF, nI_add, pk_mul, subN, divN, nI_clamp, mI1, wrH, wrM1, wrM2, wrowH, wrowM, bI0, bI1, kIi, kVi, kRi, kLi, kIx, kVx, Option.some.injEq, exists_eq_left', true_and, and_true, true_implies, false_implies, implies_true, not_true_eq_false, not_false_eq_true, true_or, or_true, false_or, or_false, forall_eq, iteT, iteF, LK_ hK, LM_ hK.m, LB_ hK.b]
    refine mp_rightF hK.m e0 (by decide) (by decide) (t239_32 ?_)
    simp (disch := omega) only [vpT, nI_leI, nI_ltI, nI_eq, nleT, nleF, nltT, nltF, neqT, neqF, nI_add, pk_mul, subN, divN, nI_clamp, mI1, wrH, wrM1, wrM2, wrowH, wrowM, bI0, bI1, kIi, kVi, kRi, kLi, kIx, kVx, Option.some.injEq, exists_eq_left', true_and, and_true, true_implies, false_implies, implies_true, not_true_eq_false, not_false_eq_true, true_or, or_true, false_or, or_false, forall_eq, iteT, iteF, LK_ hK, LM_ hK.m, LB_ hK.b]
    exact fq h (fun a ha => by rw [wrM1 (by omega), hs4 a (by omega), wrM1 (by omega), hs2 a (by omega)]) (fun j hj => by rw [wrM2 (by omega), hs4 _ (by omega), wrM2 (by omega), hs2 _ (by omega)]) (wrH rfl rfl)
  obtain ⟨w, hw, rfl⟩ := i_lt (by omega) q3 q4
  have pre2 : ∀ I3 J2 t F, (∀ a, x + 271 ≤ a ∨ a < x → I3 a = I a) → (∀ I4, same (wr I3 (x + 271) 0 (nI 0)) I4 (ms (x + 271)) → ML I4 (x + 271) (bd I (x + 1 + 2)) (fun p => dg y.toInt.toNat (n - 1 - p)) n → Wp (cal (e + 39)) kc_239 [] F (41, [some (.ref (x + 271)), some (.long y), none, some (.int (nI w)), none], [], (L, I4, J2, t))) → cal (e + 40) 239 [.ref (x + 271), .long y, .int (nI w)] (L, I3, J2, t) F := by
    intro I3 J2 t F em kk
    refine pre _ _ _ _ em fun I4 hs4 hr4 e0 => t239_15 ?_
    simp (disch := omega) only [vpT, nI_leI, nI_ltI, nI_eq, nleT, nleF, nltT, nltF, neqT, neqF, nI_add, pk_mul, subN, divN, nI_clamp, mI1, wrH, wrM1, wrM2, wrowH, wrowM, bI0, bI1, kIi, kVi, kRi, kLi, kIx, kVx, Option.some.injEq, exists_eq_left', true_and, and_true, true_implies, false_implies, implies_true, not_true_eq_false, not_false_eq_true, true_or, or_true, false_or, or_false, forall_eq, iteT, iteF, LK_ hK, LM_ hK.m, LB_ hK.b]
    refine mp_inT (lo := nI 0) (hi := nI 3) rfl rfl ⟨q3, (lt_le (by decide)).mp q4⟩ (t239_28 ?_)
    simp (disch := omega) only [vpT, nI_leI, nI_ltI, nI_eq, nleT, nleF, nltT, nltF, neqT, neqF, nI_add, pk_mul, subN, divN, nI_clamp, mI1, wrH, wrM1, wrM2, wrowH, wrowM, bI0, bI1, kIi, kVi, kRi, kLi, kIx, kVx, Option.some.injEq, exists_eq_left', true_and, and_true, true_implies, false_implies, implies_true, not_true_eq_false, not_false_eq_true, true_or, or_true, false_or, or_false, forall_eq, iteT, iteF, LK_ hK, LM_ hK.m, LB_ hK.b]
    refine mp_rightT hK.m e0 (t239_32 ?_)
    simp (disch := omega) only [vpT, nI_leI, nI_ltI, nI_eq, nleT, nleF, nltT, nltF, neqT, neqF, nI_add, pk_mul, subN, divN, nI_clamp, mI1, wrH, wrM1, wrM2, wrowH, wrowM, bI0, bI1, kIi, kVi, kRi, kLi, kIx, kVx, Option.some.injEq, exists_eq_left', true_and, and_true, true_implies, false_implies, implies_true, not_true_eq_false, not_false_eq_true, true_or, or_true, false_or, or_false, forall_eq, iteT, iteF, LK_ hK, LM_ hK.m, LB_ hK.b]
    refine mp_laysSlots (S := bd I (x + 1 + 2)) (n := n) (sn := sn) (dn := dn) (o := fun p => dg y.toInt.toNat (n - 1 - p)) hK.m (by rw [hs4 _ (by omega), wrM1 (by omega), em _ (by omega)]; exact h.r) h.i (fun j hj => ⟨hr4 j hj, go j hj⟩) fun I5 hs5 hL5 => ?_
    refine kk I5 (fun a ha => by rw [hs5 a (by omega), hs4 a (by omega)]) ⟨?_, hL5⟩
    rw [hs5 _ (by omega)]
    exact hr4
  have fin : ∀ (I3 I4 I5 : Nat → Nat → Int32) J2, same I2 I3 (tb (x + 1)) → same (wr I3 (x + 271) 0 (nI 0)) I4 (ms (x + 271)) → same I4 I5 (ms (x + 271)) → FN I0 L x 0 J2 (z, l, ex) (L, I5, J2, z, l, ex) := fun I3 I4 I5 J2 h3 h4 h5 => f2 (I2 := I3) h (fun a ha => by rw [h3 a (by omega), hs2 a (by omega)]) (by rw [h3 _ (by omega), hs2 _ (by omega)]) (fun a ha => by rw [h5 a (by omega), h4 a (by omega)]) (by rw [h5 _ (by omega), h4 _ (by omega), wrM1 (by omega)]) (by rw [h5 _ (by omega), h4 _ (by omega), wrM1 (by omega)]) (fun j hj => by rw [h5 _ (by omega), h4 _ (by omega)])
  have lay : ∀ N X, (∀ I3, same I2 I3 (tb (x + 1)) → Tab I3 (x + 1 + 23) (bd I (x + 1 + 2)) (fun p => dg y.toInt.toNat (n - 1 - p)) n → N (x + 1 + 23) (L, I3, J, z, l, ex)) → cal (d + 39) 17 [.ref (x + 1 + 23), .ref (x + 270)] (L, I2, J, z, l, ex) (kR N X) := fun N X kk => by
    refine sp_lay (n := n) (sn := sn) (dn := dn) (o := fun p => dg y.toInt.toNat (n - 1 - p)) hK.r.t hK.b (by omega) (by rw [eb2]; exact h.i) (LK_ hK).2.2.2.2.2.2.2.2.2.1 (LK_ hK).2.2.2.2.2.2.2.2.2.2.1 (by omega) (fun j hj => ⟨hr2 j hj, go j hj⟩) fun I3 hs3' hT3 => ?_
    rw [eb2] at hT3
    exact kk I3 hs3' hT3
  have : w = 0 ∨ w = 1 ∨ w = 2 ∨ w = 3 := by omega
  rcases this with rfl | rfl | rfl | rfl
  · simp (disch := omega) only [vpT, nI_leI, nI_ltI, nI_eq, nleT, nleF, nltT, nltF, neqT, neqF, nI_add, pk_mul, subN, divN, nI_clamp, mI1, wrH, wrM1, wrM2, wrowH, wrowM, bI0, bI1, kIi, kVi, kRi, kLi, kIx, kVx, Option.some.injEq, exists_eq_left', true_and, and_true, true_implies, false_implies, implies_true, not_true_eq_false, not_false_eq_true, true_or, or_true, false_or, or_false, forall_eq, iteT, iteF, LK_ hK, LM_ hK.m, LB_ hK.b]
    refine lay _ _ fun I3 hs3' hT3 => t149_50 ?_
    have eb3 : bd I3 (x + 1 + 2) = bd I (x + 1 + 2) := (hs3'.bd fun a r1 r2 => by omega).trans eb2
    have em : ∀ a, x + 271 ≤ a ∨ a < x → I3 a = I a := fun a ha => by rw [hs3' a (by omega), hs2 a (by omega)]
    simp (disch := omega) only [vpT, nI_leI, nI_ltI, nI_eq, nleT, nleF, nltT, nltF, neqT, neqF, nI_add, pk_mul, subN, divN, nI_clamp, mI1, wrH, wrM1, wrM2, wrowH, wrowM, bI0, bI1, kIi, kVi, kRi, kLi, kIx, kVx, Option.some.injEq, exists_eq_left', true_and, and_true, true_implies, false_implies, implies_true, not_true_eq_false, not_false_eq_true, true_or, or_true, false_or, or_false, forall_eq, iteT, iteF, LK_ hK, LM_ hK.m, LB_ hK.b]
    refine sp_cost (n := n) (sn := sn) (dn := dn) (o := fun p => dg y.toInt.toNat (n - 1 - p)) hK.r.t hK.b (by rw [eb3]; exact h.i) go (by rw [eb3]; exact hT3) (t149_54 ?_)
    rw [eb3]
    refine ⟨I3, J, rfl, (by first | exact h.2.2.2.2 | exact fun a ha => (em a (Or.inr ha)).trans (h.2.2.2.2 a ha) | exact fun a ha => (em2 a (Or.inr ha)).trans (h.2.2.2.2 a ha) | exact fun a ha => (hs a (by omega)).trans (h.2.2.2.2 a ha) | exact fun a ha => (wrM1 (by omega)).trans ((em a (Or.inr ha)).trans (h.2.2.2.2 a ha)) | exact fun a ha => (e3 a (by omega)).trans ((em a (Or.inr ha)).trans (h.2.2.2.2 a ha)) | exact fun a ha => (cs a (by omega) (by omega)).trans (h.2.2.2.2 a ha) | exact fun a ha => (hs2 a (by omega)).trans (h.2.2.2.2 a ha) | exact fun a ha => (e3 a (by omega) (by omega)).trans (h.2.2.2.2 a ha) | exact fun a ha => (e3 a (by omega) (by omega) (by omega) (by omega)).trans (h.2.2.2.2 a ha) | exact fun a ha => (hs5 a (by omega)).trans ((hs4' a (by omega)).trans ((hs3' a (by omega)).trans ((hs2 a (by omega)).trans (h.2.2.2.2 a ha))))), fun J2 => pre2 _ _ _ _ em fun I4 hs4 hL4 => t239_41 ?_⟩
    simp (disch := omega) only [vpT, nI_leI, nI_ltI, nI_eq, nleT, nleF, nltT, nltF, neqT, neqF, nI_add, pk_mul, subN, divN, nI_clamp, mI1, wrH, wrM1, wrM2, wrowH, wrowM, bI0, bI1, kIi, kVi, kRi, kLi, kIx, kVx, Option.some.injEq, exists_eq_left', true_and, and_true, true_implies, false_implies, implies_true, not_true_eq_false, not_false_eq_true, true_or, or_true, false_or, or_false, forall_eq, iteT, iteF, LK_ hK, LM_ hK.m, LB_ hK.b]
    refine mp_costOf (S := bd I (x + 1 + 2)) (n := n) (sn := sn) (dn := dn) hK.m (by rw [hs4 _ (by omega), wrM1 (by omega), em _ (by omega)]; exact h.r) h.i go hL4 (t239_51 ?_)
    exact ⟨rfl, fin I3 I4 I4 J2 hs3' hs4 same.rf⟩
  · simp (disch := omega) only [vpT, nI_leI, nI_ltI, nI_eq, nleT, nleF, nltT, nltF, neqT, neqF, nI_add, pk_mul, subN, divN, nI_clamp, mI1, wrH, wrM1, wrM2, wrowH, wrowM, bI0, bI1, kIi, kVi, kRi, kLi, kIx, kVx, Option.some.injEq, exists_eq_left', true_and, and_true, true_implies, false_implies, implies_true, not_true_eq_false, not_false_eq_true, true_or, or_true, false_or, or_false, forall_eq, iteT, iteF, LK_ hK, LM_ hK.m, LB_ hK.b]
    refine lay _ _ fun I3 hs3' hT3 => t149_69 ?_
    have eb3 : bd I3 (x + 1 + 2) = bd I (x + 1 + 2) := (hs3'.bd fun a r1 r2 => by omega).trans eb2
    have em : ∀ a, x + 271 ≤ a ∨ a < x → I3 a = I a := fun a ha => by rw [hs3' a (by omega), hs2 a (by omega)]
    simp (disch := omega) only [vpT, nI_leI, nI_ltI, nI_eq, nleT, nleF, nltT, nltF, neqT, neqF, nI_add, pk_mul, subN, divN, nI_clamp, mI1, wrH, wrM1, wrM2, wrowH, wrowM, bI0, bI1, kIi, kVi, kRi, kLi, kIx, kVx, Option.some.injEq, exists_eq_left', true_and, and_true, true_implies, false_implies, implies_true, not_true_eq_false, not_false_eq_true, true_or, or_true, false_or, or_false, forall_eq, iteT, iteF, LK_ hK, LM_ hK.m, LB_ hK.b]
    refine sp_cost (n := n) (sn := sn) (dn := dn) (o := fun p => dg y.toInt.toNat (n - 1 - p)) hK.r.t hK.b (by rw [eb3]; exact h.i) go (by rw [eb3]; exact hT3) (t149_73 ?_)
    rw [eb3]
    refine ⟨I3, J, rfl, (by first | exact h.2.2.2.2 | exact fun a ha => (em a (Or.inr ha)).trans (h.2.2.2.2 a ha) | exact fun a ha => (em2 a (Or.inr ha)).trans (h.2.2.2.2 a ha) | exact fun a ha => (hs a (by omega)).trans (h.2.2.2.2 a ha) | exact fun a ha => (wrM1 (by omega)).trans ((em a (Or.inr ha)).trans (h.2.2.2.2 a ha)) | exact fun a ha => (e3 a (by omega)).trans ((em a (Or.inr ha)).trans (h.2.2.2.2 a ha)) | exact fun a ha => (cs a (by omega) (by omega)).trans (h.2.2.2.2 a ha) | exact fun a ha => (hs2 a (by omega)).trans (h.2.2.2.2 a ha) | exact fun a ha => (e3 a (by omega) (by omega)).trans (h.2.2.2.2 a ha) | exact fun a ha => (e3 a (by omega) (by omega) (by omega) (by omega)).trans (h.2.2.2.2 a ha) | exact fun a ha => (hs5 a (by omega)).trans ((hs4' a (by omega)).trans ((hs3' a (by omega)).trans ((hs2 a (by omega)).trans (h.2.2.2.2 a ha))))), fun J2 => pre2 _ _ _ _ em fun I4 hs4 hL4 => t239_41 ?_⟩
    simp (disch := omega) only [vpT, nI_leI, nI_ltI, nI_eq, nleT, nleF, nltT, nltF, neqT, neqF, nI_add, pk_mul, subN, divN, nI_clamp, mI1, wrH, wrM1, wrM2, wrowH, wrowM, bI0, bI1, kIi, kVi, kRi, kLi, kIx, kVx, Option.some.injEq, exists_eq_left', true_and, and_true, true_implies, false_implies, implies_true, not_true_eq_false, not_false_eq_true, true_or, or_true, false_or, or_false, forall_eq, iteT, iteF, LK_ hK, LM_ hK.m, LB_ hK.b]
    refine mp_costOf (S := bd I (x + 1 + 2)) (n := n) (sn := sn) (dn := dn) hK.m (by rw [hs4 _ (by omega), wrM1 (by omega), em _ (by omega)]; exact h.r) h.i go hL4 (t239_51 ?_)
    exact ⟨rfl, fin I3 I4 I4 J2 hs3' hs4 same.rf⟩
  · simp (disch := omega) only [vpT, nI_leI, nI_ltI, nI_eq, nleT, nleF, nltT, nltF, neqT, neqF, nI_add, pk_mul, subN, divN, nI_clamp, mI1, wrH, wrM1, wrM2, wrowH, wrowM, bI0, bI1, kIi, kVi, kRi, kLi, kIx, kVx, Option.some.injEq, exists_eq_left', true_and, and_true, true_implies, false_implies, implies_true, not_true_eq_false, not_false_eq_true, true_or, or_true, false_or, or_false, forall_eq, iteT, iteF, LK_ hK, LM_ hK.m, LB_ hK.b]
    refine lay _ _ fun I3 hs3' hT3 => t149_88 ?_
    have eb3 : bd I3 (x + 1 + 2) = bd I (x + 1 + 2) := (hs3'.bd fun a r1 r2 => by omega).trans eb2
    have em : ∀ a, x + 271 ≤ a ∨ a < x → I3 a = I a := fun a ha => by rw [hs3' a (by omega), hs2 a (by omega)]
    simp (disch := omega) only [vpT, nI_leI, nI_ltI, nI_eq, nleT, nleF, nltT, nltF, neqT, neqF, nI_add, pk_mul, subN, divN, nI_clamp, mI1, wrH, wrM1, wrM2, wrowH, wrowM, bI0, bI1, kIi, kVi, kRi, kLi, kIx, kVx, Option.some.injEq, exists_eq_left', true_and, and_true, true_implies, false_implies, implies_true, not_true_eq_false, not_false_eq_true, true_or, or_true, false_or, or_false, forall_eq, iteT, iteF, LK_ hK, LM_ hK.m, LB_ hK.b]
    refine sp_holds (n := n) (sn := sn) (dn := dn) (o := fun p => dg y.toInt.toNat (n - 1 - p)) hK.r.t hK.b (by rw [eb3]; exact h.i) go (by rw [eb3]; exact hT3) (t149_91 ?_)
    rw [eb3]
    refine sp_bit (t149_94 ?_)
    refine ⟨I3, J, rfl, (by first | exact h.2.2.2.2 | exact fun a ha => (em a (Or.inr ha)).trans (h.2.2.2.2 a ha) | exact fun a ha => (em2 a (Or.inr ha)).trans (h.2.2.2.2 a ha) | exact fun a ha => (hs a (by omega)).trans (h.2.2.2.2 a ha) | exact fun a ha => (wrM1 (by omega)).trans ((em a (Or.inr ha)).trans (h.2.2.2.2 a ha)) | exact fun a ha => (e3 a (by omega)).trans ((em a (Or.inr ha)).trans (h.2.2.2.2 a ha)) | exact fun a ha => (cs a (by omega) (by omega)).trans (h.2.2.2.2 a ha) | exact fun a ha => (hs2 a (by omega)).trans (h.2.2.2.2 a ha) | exact fun a ha => (e3 a (by omega) (by omega)).trans (h.2.2.2.2 a ha) | exact fun a ha => (e3 a (by omega) (by omega) (by omega) (by omega)).trans (h.2.2.2.2 a ha) | exact fun a ha => (hs5 a (by omega)).trans ((hs4' a (by omega)).trans ((hs3' a (by omega)).trans ((hs2 a (by omega)).trans (h.2.2.2.2 a ha))))), fun J2 => pre2 _ _ _ _ em fun I4 hs4 hL4 => t239_41 ?_⟩
    simp (disch := omega) only [vpT, nI_leI, nI_ltI, nI_eq, nleT, nleF, nltT, nltF, neqT, neqF, nI_add, pk_mul, subN, divN, nI_clamp, mI1, wrH, wrM1, wrM2, wrowH, wrowM, bI0, bI1, kIi, kVi, kRi, kLi, kIx, kVx, Option.some.injEq, exists_eq_left', true_and, and_true, true_implies, false_implies, implies_true, not_true_eq_false, not_false_eq_true, true_or, or_true, false_or, or_false, forall_eq, iteT, iteF, LK_ hK, LM_ hK.m, LB_ hK.b]
    refine mp_holds (S := bd I (x + 1 + 2)) (n := n) (sn := sn) (dn := dn) hK.m (by rw [hs4 _ (by omega), wrM1 (by omega), em _ (by omega)]; exact h.r) h.i go hL4 (t239_61 ?_)
    refine ⟨fun q => ⟨q.symm, fin I3 I4 I4 J2 hs3' hs4 same.rf⟩, fun q => ⟨?_, fin I3 I4 I4 J2 hs3' hs4 same.rf⟩⟩
    rw [bI0] at q
    rw [btf q]
    rfl
  · simp (disch := omega) only [vpT, nI_leI, nI_ltI, nI_eq, nleT, nleF, nltT, nltF, neqT, neqF, nI_add, pk_mul, subN, divN, nI_clamp, mI1, wrH, wrM1, wrM2, wrowH, wrowM, bI0, bI1, kIi, kVi, kRi, kLi, kIx, kVx, Option.some.injEq, exists_eq_left', true_and, and_true, true_implies, false_implies, implies_true, not_true_eq_false, not_false_eq_true, true_or, or_true, false_or, or_false, forall_eq, iteT, iteF, LK_ hK, LM_ hK.m, LB_ hK.b]
    refine sp_frozen (n := n) (sn := sn) (dn := dn) hK.r (by rw [eb2]; exact h.i) fun I3 hs3' hT3 => t149_110 ?_
    have eb3 : bd I3 (x + 1 + 2) = bd I (x + 1 + 2) := (hs3'.bd fun a r1 r2 => by omega).trans eb2
    have em : ∀ a, x + 271 ≤ a ∨ a < x → I3 a = I a := fun a ha => by rw [hs3' a (by omega), hs2 a (by omega)]
    rw [eb2]
    simp (disch := omega) only [vpT, nI_leI, nI_ltI, nI_eq, nleT, nleF, nltT, nltF, neqT, neqF, nI_add, pk_mul, subN, divN, nI_clamp, mI1, wrH, wrM1, wrM2, wrowH, wrowM, bI0, bI1, kIi, kVi, kRi, kLi, kIx, kVx, Option.some.injEq, exists_eq_left', true_and, and_true, true_implies, false_implies, implies_true, not_true_eq_false, not_false_eq_true, true_or, or_true, false_or, or_false, forall_eq, iteT, iteF, LK_ hK, LM_ hK.m, LB_ hK.b]
    refine sp_isAllowed (n := n) (sn := sn) (dn := dn) (sh := sh) (o := fun p => dg y.toInt.toNat (n - 1 - p)) hK.r (by rw [eb3]; exact h.i) (by rw [eb3]; exact hsh) hs3 hfz (LK_ hK).2.2.2.2.2.2.2.2.2.1 (LK_ hK).2.2.2.2.2.2.2.2.2.2.1 (fun j hj => ⟨by rw [hs3' _ (by omega)]; exact hr2 j hj, go j hj⟩) (t149_113 ?_)
    rw [eb3]
    refine sp_bit (t149_116 ?_)
    refine ⟨I3, J, rfl, (by first | exact h.2.2.2.2 | exact fun a ha => (em a (Or.inr ha)).trans (h.2.2.2.2 a ha) | exact fun a ha => (em2 a (Or.inr ha)).trans (h.2.2.2.2 a ha) | exact fun a ha => (hs a (by omega)).trans (h.2.2.2.2 a ha) | exact fun a ha => (wrM1 (by omega)).trans ((em a (Or.inr ha)).trans (h.2.2.2.2 a ha)) | exact fun a ha => (e3 a (by omega)).trans ((em a (Or.inr ha)).trans (h.2.2.2.2 a ha)) | exact fun a ha => (cs a (by omega) (by omega)).trans (h.2.2.2.2 a ha) | exact fun a ha => (hs2 a (by omega)).trans (h.2.2.2.2 a ha) | exact fun a ha => (e3 a (by omega) (by omega)).trans (h.2.2.2.2 a ha) | exact fun a ha => (e3 a (by omega) (by omega) (by omega) (by omega)).trans (h.2.2.2.2 a ha) | exact fun a ha => (hs5 a (by omega)).trans ((hs4' a (by omega)).trans ((hs3' a (by omega)).trans ((hs2 a (by omega)).trans (h.2.2.2.2 a ha))))), fun J2 => pre2 _ _ _ _ em fun I4 hs4 hL4 => t239_41 ?_⟩
    have r4 : I4 (x + 271 + 1) = I (x + 271 + 1) := by rw [hs4 _ (by omega), wrM1 (by omega), em _ (by omega)]
    simp (disch := omega) only [vpT, nI_leI, nI_ltI, nI_eq, nleT, nleF, nltT, nltF, neqT, neqF, nI_add, pk_mul, subN, divN, nI_clamp, mI1, wrH, wrM1, wrM2, wrowH, wrowM, bI0, bI1, kIi, kVi, kRi, kLi, kIx, kVx, Option.some.injEq, exists_eq_left', true_and, and_true, true_implies, false_implies, implies_true, not_true_eq_false, not_false_eq_true, true_or, or_true, false_or, or_false, forall_eq, iteT, iteF, LK_ hK, LM_ hK.m, LB_ hK.b]
    refine mp_frozenNow (S := bd I (x + 1 + 2)) (n := n) (sn := sn) (dn := dn) hK.m (by rw [r4]; exact h.r) h.i hol fun I5 hs5 hL5 => t239_74 ?_
    have r5 : I5 (x + 271 + 1) = I (x + 271 + 1) := by rw [hs5 _ (by omega), r4]
    simp (disch := omega) only [vpT, nI_leI, nI_ltI, nI_eq, nleT, nleF, nltT, nltF, neqT, neqF, nI_add, pk_mul, subN, divN, nI_clamp, mI1, wrH, wrM1, wrM2, wrowH, wrowM, bI0, bI1, kIi, kVi, kRi, kLi, kIx, kVx, Option.some.injEq, exists_eq_left', true_and, and_true, true_implies, false_implies, implies_true, not_true_eq_false, not_false_eq_true, true_or, or_true, false_or, or_false, forall_eq, iteT, iteF, LK_ hK, LM_ hK.m, LB_ hK.b]
    refine mp_laysTold hK hn (by rw [r5]; exact h.m0) (fun g2 => absurd g g2) (fun _ I6 hs6 hr6 => t239_81 ?_)
    simp (disch := omega) only [vpT, nI_leI, nI_ltI, nI_eq, nleT, nleF, nltT, nltF, neqT, neqF, nI_add, pk_mul, subN, divN, nI_clamp, mI1, wrH, wrM1, wrM2, wrowH, wrowM, bI0, bI1, kIi, kVi, kRi, kLi, kIx, kVx, Option.some.injEq, exists_eq_left', true_and, and_true, true_implies, false_implies, implies_true, not_true_eq_false, not_false_eq_true, true_or, or_true, false_or, or_false, forall_eq, iteT, iteF, LK_ hK, LM_ hK.m, LB_ hK.b]
    refine mp_isAllowed (S := bd I (x + 1 + 2)) (n := n) (sn := sn) (dn := dn) (T := 1999) (o := fun p => dg y.toInt.toNat (n - 1 - p)) hK.m (by rw [hs6 _ (by omega), r5]; exact h.r) h.i h.v.2.2.1 hsh hs3 hol go hr6 (by omega) (t239_88 ?_)
    have fn := fin I3 I4 I6 J2 hs3' hs4 (fun a ha => by rw [hs6 a (by omega), hs5 a (by omega)])
    refine ⟨fun q => ⟨q.symm, fn⟩, fun q => ⟨?_, fn⟩⟩
    rw [bI0] at q
    rw [btf q]
    rfl
theorem P_tell {y : Int64} (hK : LK L x) (h : SX I0 I x n sn dn ac fi tp sd) : PR I0 L x 152 241 0 9 d e [.long y] I J z l ex := by
  have hn := h.n10
  have hs4 := h.i.2.1.2
  have hd20 := h.i.2.2.1.2
  have hol := BI_or h.i
  have hfz := frz_le (S := bd I (x + 1 + 2)) (n := n)
  refine e152 (t152_0 ?_)
  simp (disch := omega) only [vpT, nI_leI, nI_ltI, nI_eq, nleT, nleF, nltT, nltF, neqT, neqF, nI_add, pk_mul, subN, divN, nI_clamp, mI1, wrH, wrM1, wrM2, wrowH, wrowM, bI0, bI1, kIi, kVi, kRi, kLi, kIx, kVx, Option.some.injEq, exists_eq_left', true_and, and_true, true_implies, false_implies, implies_true, not_true_eq_false, not_false_eq_true, true_or, or_true, false_or, or_false, forall_eq, iteT, iteF, LK_ hK, LM_ hK.m, LB_ hK.b]
  refine sp_checkOrder hK h (fun g I2 hs2 => Or.inl ⟨rfl, (by unfold NE9; decide), I2, J, rfl, (by first | exact h.2.2.2.2 | exact fun a ha => (em a (Or.inr ha)).trans (h.2.2.2.2 a ha) | exact fun a ha => (em2 a (Or.inr ha)).trans (h.2.2.2.2 a ha) | exact fun a ha => (hs a (by omega)).trans (h.2.2.2.2 a ha) | exact fun a ha => (wrM1 (by omega)).trans ((em a (Or.inr ha)).trans (h.2.2.2.2 a ha)) | exact fun a ha => (e3 a (by omega)).trans ((em a (Or.inr ha)).trans (h.2.2.2.2 a ha)) | exact fun a ha => (cs a (by omega) (by omega)).trans (h.2.2.2.2 a ha) | exact fun a ha => (hs2 a (by omega)).trans (h.2.2.2.2 a ha) | exact fun a ha => (e3 a (by omega) (by omega)).trans (h.2.2.2.2 a ha) | exact fun a ha => (e3 a (by omega) (by omega) (by omega) (by omega)).trans (h.2.2.2.2 a ha) | exact fun a ha => (hs5 a (by omega)).trans ((hs4' a (by omega)).trans ((hs3' a (by omega)).trans ((hs2 a (by omega)).trans (h.2.2.2.2 a ha))))), fun J2 => e241 (t241_0 ?_)⟩) (fun g I2 hs2 hr2 => t152_5 ?_)
  · simp (disch := omega) only [vpT, nI_leI, nI_ltI, nI_eq, nleT, nleF, nltT, nltF, neqT, neqF, nI_add, pk_mul, subN, divN, nI_clamp, mI1, wrH, wrM1, wrM2, wrowH, wrowM, bI0, bI1, kIi, kVi, kRi, kLi, kIx, kVx, Option.some.injEq, exists_eq_left', true_and, and_true, true_implies, false_implies, implies_true, not_true_eq_false, not_false_eq_true, true_or, or_true, false_or, or_false, forall_eq, iteT, iteF, LK_ hK, LM_ hK.m, LB_ hK.b]
    refine mp_laysTold hK hn (by rw [wrM1 (by omega), hs2 _ (by omega)]; exact h.m0) (fun _ I3 hs3' => t241_11 ?_) (fun g2 => absurd g2 g)
    simp (disch := omega) only [vpT, nI_leI, nI_ltI, nI_eq, nleT, nleF, nltT, nltF, neqT, neqF, nI_add, pk_mul, subN, divN, nI_clamp, mI1, wrH, wrM1, wrM2, wrowH, wrowM, bI0, bI1, kIi, kVi, kRi, kLi, kIx, kVx, Option.some.injEq, exists_eq_left', true_and, and_true, true_implies, false_implies, implies_true, not_true_eq_false, not_false_eq_true, true_or, or_true, false_or, or_false, forall_eq, iteT, iteF, LK_ hK, LM_ hK.m, LB_ hK.b]
    refine mp_rightF hK.m (by rw [hs3' _ (by omega)]; exact wrH rfl rfl) (by decide) (by decide) (t241_15 ?_)
    simp (disch := omega) only [vpT, nI_leI, nI_ltI, nI_eq, nleT, nleF, nltT, nltF, neqT, neqF, nI_add, pk_mul, subN, divN, nI_clamp, mI1, wrH, wrM1, wrM2, wrowH, wrowM, bI0, bI1, kIi, kVi, kRi, kLi, kIx, kVx, Option.some.injEq, exists_eq_left', true_and, and_true, true_implies, false_implies, implies_true, not_true_eq_false, not_false_eq_true, true_or, or_true, false_or, or_false, forall_eq, iteT, iteF, LK_ hK, LM_ hK.m, LB_ hK.b]
    exact fq h (fun a ha => by rw [wrM1 (by omega), hs3' a (by omega), wrM1 (by omega), hs2 a (by omega)]) (fun j hj => by rw [wrM2 (by omega), hs3' _ (by omega), wrM2 (by omega), hs2 _ (by omega)]) (wrH rfl rfl)
  have eb2 : bd I2 (x + 1 + 2) = bd I (x + 1 + 2) := hs2.bd fun a r1 r2 => by omega
  have go : ∀ p, p < n → dg y.toInt.toNat (n - 1 - p) < n := fun p hp => g.2.1 _ (by omega)
  have gi : ∀ i j, i < n → j < n → dg y.toInt.toNat (n - 1 - i) = dg y.toInt.toNat (n - 1 - j) → i = j := fun i j hi hj q => by have := g.2.2.1 _ _ (by omega) (by omega) q; omega
  generalize ho : (fun p => dg y.toInt.toNat (n - 1 - p)) = o at hr2
  have go : ∀ p, p < n → o p < n := fun p hp => by rw [← ho]; exact go p hp
  have gi : ∀ i j, i < n → j < n → o i = o j → i = j := fun i j hi hj q => by rw [← ho] at q; exact gi i j hi hj q
  simp (disch := omega) only [vpT, nI_leI, nI_ltI, nI_eq, nleT, nleF, nltT, nltF, neqT, neqF, nI_add, pk_mul, subN, divN, nI_clamp, mI1, wrH, wrM1, wrM2, wrowH, wrowM, bI0, bI1, kIi, kVi, kRi, kLi, kIx, kVx, Option.some.injEq, exists_eq_left', true_and, and_true, true_implies, false_implies, implies_true, not_true_eq_false, not_false_eq_true, true_or, or_true, false_or, or_false, forall_eq, iteT, iteF, LK_ hK, LM_ hK.m, LB_ hK.b]
  refine sp_frozen (n := n) (sn := sn) (dn := dn) hK.r (by rw [eb2]; exact h.i) fun I3 hs3 hT3 => t152_23 ?_
  have eb3 : bd I3 (x + 1 + 2) = bd I (x + 1 + 2) := (hs3.bd fun a r1 r2 => by omega).trans eb2
  rw [eb2]
  simp (disch := omega) only [vpT, nI_leI, nI_ltI, nI_eq, nleT, nleF, nltT, nltF, neqT, neqF, nI_add, pk_mul, subN, divN, nI_clamp, mI1, wrH, wrM1, wrM2, wrowH, wrowM, bI0, bI1, kIi, kVi, kRi, kLi, kIx, kVx, Option.some.injEq, exists_eq_left', true_and, and_true, true_implies, false_implies, implies_true, not_true_eq_false, not_false_eq_true, true_or, or_true, false_or, or_false, forall_eq, iteT, iteF, LK_ hK, LM_ hK.m, LB_ hK.b]
  refine sp_beginsAlike hK.b (LK_ hK).2.2.2.2.2.2.2.2.2.1 (LK_ hK).2.2.2.2.2.2.2.2.2.2.1 (by omega) (t152_26 ?_)
  have r270 : I3 (x + 270) = I2 (x + 270) := hs3 _ (by omega)
  have al : ∀ m, m ≤ n → (allB (fun j => decide (I3 (x + 270) j = bOr (bd I3 (x + 1 + 2)) j)) m = true ↔ ∀ j, j < m → o j = ordN (bd I (x + 1 + 2)) j) := by
    intro m hm
    rw [allB_iff, eb3, r270]
    refine ⟨fun q j hj => ?_, fun q j hj => ?_⟩
    · have := of_decide_eq_true (q j hj)
      rw [hr2 j (by omega), (hol j (by omega)).1] at this
      exact (nI_eq (by have := go j (by omega); omega) (by have := (hol j (by omega)).2; omega)).mp this
    · refine decide_eq_true ?_
      rw [hr2 j (by omega), (hol j (by omega)).1, q j hj]
  have pre : ∀ I3 J2 t F, (∀ a, x + 271 ≤ a ∨ a < x → I3 a = I a) → (∀ I4, same (wr I3 (x + 271) 0 (nI 0)) I4 (ms (x + 271)) → ROW (I4 (x + 271 + 6)) o n → Wp (cal (e + 39)) kc_241 [] F (34, [some (.ref (x + 271)), some (.long y), none, some (.int (nI (frz (bd I (x + 1 + 2)) n))), some (.int (nI 0))], [], (L, I4, J2, t))) → cal (e + 40) 241 [.ref (x + 271), .long y] (L, I3, J2, t) F := by
    intro I3 J2 t F em kk
    refine e241 (t241_0 ?_)
    simp (disch := omega) only [vpT, nI_leI, nI_ltI, nI_eq, nleT, nleF, nltT, nltF, neqT, neqF, nI_add, pk_mul, subN, divN, nI_clamp, mI1, wrH, wrM1, wrM2, wrowH, wrowM, bI0, bI1, kIi, kVi, kRi, kLi, kIx, kVx, Option.some.injEq, exists_eq_left', true_and, and_true, true_implies, false_implies, implies_true, not_true_eq_false, not_false_eq_true, true_or, or_true, false_or, or_false, forall_eq, iteT, iteF, LK_ hK, LM_ hK.m, LB_ hK.b]
    refine mp_laysTold hK hn (by rw [wrM1 (by omega), em _ (by omega)]; exact h.m0) (fun g2 => absurd g g2) (fun _ I4 hs4 hr4 => t241_11 ?_)
    simp (disch := omega) only [vpT, nI_leI, nI_ltI, nI_eq, nleT, nleF, nltT, nltF, neqT, neqF, nI_add, pk_mul, subN, divN, nI_clamp, mI1, wrH, wrM1, wrM2, wrowH, wrowM, bI0, bI1, kIi, kVi, kRi, kLi, kIx, kVx, Option.some.injEq, exists_eq_left', true_and, and_true, true_implies, false_implies, implies_true, not_true_eq_false, not_false_eq_true, true_or, or_true, false_or, or_false, forall_eq, iteT, iteF, LK_ hK, LM_ hK.m, LB_ hK.b]
    refine mp_rightT hK.m (by rw [hs4 _ (by omega)]; exact wrH rfl rfl) (t241_15 ?_)
    have r4 : I4 (x + 271 + 1) = I (x + 271 + 1) := by rw [hs4 _ (by omega), wrM1 (by omega), em _ (by omega)]
    simp (disch := omega) only [vpT, nI_leI, nI_ltI, nI_eq, nleT, nleF, nltT, nltF, neqT, neqF, nI_add, pk_mul, subN, divN, nI_clamp, mI1, wrH, wrM1, wrM2, wrowH, wrowM, bI0, bI1, kIi, kVi, kRi, kLi, kIx, kVx, Option.some.injEq, exists_eq_left', true_and, and_true, true_implies, false_implies, implies_true, not_true_eq_false, not_false_eq_true, true_or, or_true, false_or, or_false, forall_eq, iteT, iteF, LK_ hK, LM_ hK.m, LB_ hK.b]
    refine mp_frozenNow (S := bd I (x + 1 + 2)) (n := n) (sn := sn) (dn := dn) hK.m (by rw [r4]; exact h.r) h.i hol fun I5 hs5 hL5 => t241_24 ?_
    have r5 : I5 (x + 271 + 1) = I (x + 271 + 1) := by rw [hs5 _ (by omega), r4]
    simp (disch := omega) only [vpT, nI_leI, nI_ltI, nI_eq, nleT, nleF, nltT, nltF, neqT, neqF, nI_add, pk_mul, subN, divN, nI_clamp, mI1, wrH, wrM1, wrM2, wrowH, wrowM, bI0, bI1, kIi, kVi, kRi, kLi, kIx, kVx, Option.some.injEq, exists_eq_left', true_and, and_true, true_implies, false_implies, implies_true, not_true_eq_false, not_false_eq_true, true_or, or_true, false_or, or_false, forall_eq, iteT, iteF, LK_ hK, LM_ hK.m, LB_ hK.b]
    refine mp_laysTold hK hn (by rw [r5]; exact h.m0) (fun g2 => absurd g g2) (fun _ I6 hs6 hr6 => t241_30 ?_)
    rw [ho] at hr6
    exact kk I6 (fun a ha => by rw [hs6 a (by omega), hs5 a (by omega), hs4 a (by omega)]) hr6
  by_cases ha : ∀ j, j < frz (bd I (x + 1 + 2)) n → o j = ordN (bd I (x + 1 + 2)) j
  · rw [(al _ hfz).mpr ha, bI_t]
    simp (disch := omega) only [vpT, nI_leI, nI_ltI, nI_eq, nleT, nleF, nltT, nltF, neqT, neqF, nI_add, pk_mul, subN, divN, nI_clamp, mI1, wrH, wrM1, wrM2, wrowH, wrowM, bI0, bI1, kIi, kVi, kRi, kLi, kIx, kVx, Option.some.injEq, exists_eq_left', true_and, and_true, true_implies, false_implies, implies_true, not_true_eq_false, not_false_eq_true, true_or, or_true, false_or, or_false, forall_eq, iteT, iteF, LK_ hK, LM_ hK.m, LB_ hK.b]
    refine sp_kp hK h (fun a r1 r2 r3 => by rw [hs3 a (by omega), hs2 a (by omega)]) fun I4 fi' s hC hs4' => t152_45 ?_
    simp (disch := omega) only [vpT, nI_leI, nI_ltI, nI_eq, nleT, nleF, nltT, nltF, neqT, neqF, nI_add, pk_mul, subN, divN, nI_clamp, mI1, wrH, wrM1, wrM2, wrowH, wrowM, bI0, bI1, kIi, kVi, kRi, kLi, kIx, kVx, Option.some.injEq, exists_eq_left', true_and, and_true, true_implies, false_implies, implies_true, not_true_eq_false, not_false_eq_true, true_or, or_true, false_or, or_false, forall_eq, iteT, iteF, LK_ hK, LM_ hK.m, LB_ hK.b]
    refine sp_setOrder hK.b (LK_ hK).2.2.2.2.2.2.2.2.2.1 (LK_ hK).2.2.2.2.2.2.2.2.2.2.1 (t152_59 ?_)
    simp (disch := omega) only [vpT, nI_leI, nI_ltI, nI_eq, nleT, nleF, nltT, nltF, neqT, neqF, nI_add, pk_mul, subN, divN, nI_clamp, mI1, wrH, wrM1, wrM2, wrowH, wrowM, bI0, bI1, kIi, kVi, kRi, kLi, kIx, kVx, Option.some.injEq, exists_eq_left', true_and, and_true, true_implies, false_implies, implies_true, not_true_eq_false, not_false_eq_true, true_or, or_true, false_or, or_false, forall_eq, iteT, iteF, LK_ hK, LM_ hK.m, LB_ hK.b]
    have hr18 : I4 (x + 270) = I2 (x + 270) := by rw [hs4' _ (by have := hC.1; omega), r270]
    generalize hI5 : wrow I4 (x + 1 + 2 + 6) (va_cpy (I4 (x + 270)) (I4 (x + 1 + 2 + 6)) 0 0 10) = I5
    have e5 : ∀ a, a ≠ x + 1 + 2 + 6 → I5 a = I4 a := fun a ha => by rw [← hI5, wrowM ha]
    have hr5 : ROW (I5 (x + 1 + 2 + 6)) o n := fun k hk => by rw [← hI5, wrowH rfl, sb_cpy0 (by omega), hr18]; exact hr2 k hk
    have hO : Oth (bd I (x + 1 + 2)) (bd I5 (x + 1 + 2)) n _ := Oth_of (fun a r1 r2 r3 => by rw [e5 a (by omega), hs4' a (by omega), hs3 a (by omega), hs2 a (by omega)]) hr5
    have em : ∀ a, x + 271 ≤ a ∨ a < x → I5 a = I a := fun a ha => by rw [e5 a (by omega), hs4' a (by have := hC.1; omega), hs3 a (by omega), hs2 a (by omega)]
    refine ⟨I5, J, rfl, (by first | exact h.2.2.2.2 | exact fun a ha => (em a (Or.inr ha)).trans (h.2.2.2.2 a ha) | exact fun a ha => (em2 a (Or.inr ha)).trans (h.2.2.2.2 a ha) | exact fun a ha => (hs a (by omega)).trans (h.2.2.2.2 a ha) | exact fun a ha => (wrM1 (by omega)).trans ((em a (Or.inr ha)).trans (h.2.2.2.2 a ha)) | exact fun a ha => (e3 a (by omega)).trans ((em a (Or.inr ha)).trans (h.2.2.2.2 a ha)) | exact fun a ha => (cs a (by omega) (by omega)).trans (h.2.2.2.2 a ha) | exact fun a ha => (hs2 a (by omega)).trans (h.2.2.2.2 a ha) | exact fun a ha => (e3 a (by omega) (by omega)).trans (h.2.2.2.2 a ha) | exact fun a ha => (e3 a (by omega) (by omega) (by omega) (by omega)).trans (h.2.2.2.2 a ha) | exact fun a ha => (hs5 a (by omega)).trans ((hs4' a (by omega)).trans ((hs3' a (by omega)).trans ((hs2 a (by omega)).trans (h.2.2.2.2 a ha))))), fun J2 => pre _ _ _ _ em fun I6 hs6 hr6 => ?_⟩
    have r6 : I6 (x + 271 + 1) = I (x + 271 + 1) := by rw [hs6 _ (by omega), wrM1 (by omega), em _ (by omega)]
    refine lq (n := frz (bd I (x + 1 + 2)) n) (fun i => [some (.ref (x + 271)), some (.long y), none, some (.int (nI (frz (bd I (x + 1 + 2)) n))), some (.int (nI i))]) (fun i hi ih => t241_34 ?_) (t241_34 ?_)
    · have e6 : I6 (x + 271 + 6) i = I6 (x + 271 + 1) (46 + i) := by rw [hr6 i (by omega), r6, (h.r.2.1 i (by omega)).2.2.2.2, (hol i (by omega)).1, ha i hi]
      simp (disch := omega) only [vpT, nI_leI, nI_ltI, nI_eq, nleT, nleF, nltT, nltF, neqT, neqF, nI_add, pk_mul, subN, divN, nI_clamp, mI1, wrH, wrM1, wrM2, wrowH, wrowM, bI0, bI1, kIi, kVi, kRi, kLi, kIx, kVx, Option.some.injEq, exists_eq_left', true_and, and_true, true_implies, false_implies, implies_true, not_true_eq_false, not_false_eq_true, true_or, or_true, false_or, or_false, forall_eq, iteT, iteF, LK_ hK, LM_ hK.m, LB_ hK.b, e6]
      exact ih
    · simp (disch := omega) only [vpT, nI_leI, nI_ltI, nI_eq, nleT, nleF, nltT, nltF, neqT, neqF, nI_add, pk_mul, subN, divN, nI_clamp, mI1, wrH, wrM1, wrM2, wrowH, wrowM, bI0, bI1, kIi, kVi, kRi, kLi, kIx, kVx, Option.some.injEq, exists_eq_left', true_and, and_true, true_implies, false_implies, implies_true, not_true_eq_false, not_false_eq_true, true_or, or_true, false_or, or_false, forall_eq, iteT, iteF, LK_ hK, LM_ hK.m, LB_ hK.b]
      refine mp_kp hK h (by rw [hs6 _ (by omega), wrM2 (by omega), em _ (by omega)]) r6 (by rw [hs6 _ (by omega), wrM1 (by omega), em _ (by omega)]) fun I7 hs7 hf7 hP7 => t241_72 ?_
      have r7 : I7 (x + 271 + 1) = I (x + 271 + 1) := by rw [hs7 _ (by omega), r6]
      refine lg (n := n) (fun i lv h => ∃ I8, lv = [some (.ref (x + 271)), some (.long y), none, some (.int (nI (frz (bd I (x + 1 + 2)) n))), some (.int (nI i))] ∧ h = (L, I8, J2, z, l, ex) ∧ same I7 I8 (fun a => a = x + 271 + 1) ∧ (∀ j, j < i → I8 (x + 271 + 1) (46 + j) = nI (o j)) ∧ ∀ j, j < 46 ∨ 46 + i ≤ j → I8 (x + 271 + 1) j = I (x + 271 + 1) j) ?_ ?_ (Nat.zero_le _) _ _ ⟨I7, rfl, rfl, same.rf, fun j hj => by omega, fun j _ => by rw [r7]⟩
      · rintro i hi ih _ _ ⟨I8, rfl, rfl, hs8, k1, k2⟩
        have e0 : I8 (x + 271 + 1) 0 = nI n := (k2 0 (by omega)).trans h.m0
        have e8 : I8 (x + 271 + 6) i = nI (o i) := by rw [hs8 _ (by omega), hs7 _ (by omega)]; exact hr6 i hi
        refine t241_75 ?_
        simp (disch := omega) only [vpT, nI_leI, nI_ltI, nI_eq, nleT, nleF, nltT, nltF, neqT, neqF, nI_add, pk_mul, subN, divN, nI_clamp, mI1, wrH, wrM1, wrM2, wrowH, wrowM, bI0, bI1, kIi, kVi, kRi, kLi, kIx, kVx, Option.some.injEq, exists_eq_left', true_and, and_true, true_implies, false_implies, implies_true, not_true_eq_false, not_false_eq_true, true_or, or_true, false_or, or_false, forall_eq, iteT, iteF, LK_ hK, LM_ hK.m, LB_ hK.b, e0, e8]
        refine ih _ _ ⟨_, rfl, rfl, fun a ha => by rw [wrM1 ha]; exact hs8 a ha, fun j hj => ?_, fun j hj => ?_⟩
        · by_cases q : j = i
          · rw [wrH rfl (by omega), q]
          · rw [wrM2 (by omega)]; exact k1 j (by omega)
        · rw [wrM2 (by omega)]; exact k2 j (by omega)
      · rintro _ _ ⟨I8, rfl, rfl, hs8, k1, k2⟩
        have e0 : I8 (x + 271 + 1) 0 = nI n := (k2 0 (by omega)).trans h.m0
        refine t241_75 ?_
        simp (disch := omega) only [vpT, nI_leI, nI_ltI, nI_eq, nleT, nleF, nltT, nltF, neqT, neqF, nI_add, pk_mul, subN, divN, nI_clamp, mI1, wrH, wrM1, wrM2, wrowH, wrowM, bI0, bI1, kIi, kVi, kRi, kLi, kIx, kVx, Option.some.injEq, exists_eq_left', true_and, and_true, true_implies, false_implies, implies_true, not_true_eq_false, not_false_eq_true, true_or, or_true, false_or, or_false, forall_eq, iteT, iteF, LK_ hK, LM_ hK.m, LB_ hK.b, e0]
        refine fb (n' := n) (sn' := sn) (dn' := dn) h (hC.fr fun a r1 r2 => e5 a (by omega)) (fun a ha => by rw [e5 a (by omega), hs4' a (by omega), hs3 a (by omega), hs2 a (by omega)]) (fun a ha => by rw [hs8 a (by omega), hs7 a (by omega), hs6 a (by omega), wrM1 (by omega)]) (hP7.fr (by rw [hs8 _ (by omega)]) (by rw [hs8 _ (by omega)])) (fun j hj => by rw [hs8 _ (by omega), hf7 j (by omega), hs6 _ (by omega), wrM2 (by omega)]) (by rw [hs8 _ (by omega), hf7 0 (by omega), hs6 _ (by omega)]; exact wrH rfl rfl) (h.1.1.oth hO go gi) (hO.rel h.r hn hs4 hd20 k1 (fun j j1 j2 => k2 j j1))
  · have af : allB (fun j => decide (I3 (x + 270) j = bOr (bd I3 (x + 1 + 2)) j)) (frz (bd I (x + 1 + 2)) n) = false := by
      cases q : allB (fun j => decide (I3 (x + 270) j = bOr (bd I3 (x + 1 + 2)) j)) (frz (bd I (x + 1 + 2)) n) with
      | false => rfl
      | true => exact absurd ((al _ hfz).mp q) ha
    rw [af, bI_f]
    simp (disch := omega) only [vpT, nI_leI, nI_ltI, nI_eq, nleT, nleF, nltT, nltF, neqT, neqF, nI_add, pk_mul, subN, divN, nI_clamp, mI1, wrH, wrM1, wrM2, wrowH, wrowM, bI0, bI1, kIi, kVi, kRi, kLi, kIx, kVx, Option.some.injEq, exists_eq_left', true_and, and_true, true_implies, false_implies, implies_true, not_true_eq_false, not_false_eq_true, true_or, or_true, false_or, or_false, forall_eq, iteT, iteF, LK_ hK, LM_ hK.m, LB_ hK.b]
    have em : ∀ a, x + 271 ≤ a ∨ a < x → I3 a = I a := fun a ha => by rw [hs3 a (by omega), hs2 a (by omega)]
    refine ⟨I3, J, rfl, (by first | exact h.2.2.2.2 | exact fun a ha => (em a (Or.inr ha)).trans (h.2.2.2.2 a ha) | exact fun a ha => (em2 a (Or.inr ha)).trans (h.2.2.2.2 a ha) | exact fun a ha => (hs a (by omega)).trans (h.2.2.2.2 a ha) | exact fun a ha => (wrM1 (by omega)).trans ((em a (Or.inr ha)).trans (h.2.2.2.2 a ha)) | exact fun a ha => (e3 a (by omega)).trans ((em a (Or.inr ha)).trans (h.2.2.2.2 a ha)) | exact fun a ha => (cs a (by omega) (by omega)).trans (h.2.2.2.2 a ha) | exact fun a ha => (hs2 a (by omega)).trans (h.2.2.2.2 a ha) | exact fun a ha => (e3 a (by omega) (by omega)).trans (h.2.2.2.2 a ha) | exact fun a ha => (e3 a (by omega) (by omega) (by omega) (by omega)).trans (h.2.2.2.2 a ha) | exact fun a ha => (hs5 a (by omega)).trans ((hs4' a (by omega)).trans ((hs3' a (by omega)).trans ((hs2 a (by omega)).trans (h.2.2.2.2 a ha))))), fun J2 => pre _ _ _ _ em fun I6 hs6 hr6 => ?_⟩
    have r6 : I6 (x + 271 + 1) = I (x + 271 + 1) := by rw [hs6 _ (by omega), wrM1 (by omega), em _ (by omega)]
    have fin : FN I0 L x 0 J2 (z, l, ex) (L, I6, J2, z, l, ex) := f2 (I2 := I3) h (fun a ha => by rw [hs3 a (by omega), hs2 a (by omega)]) (em _ (by omega)) (hs6.up fun a ha => by omega) (by rw [hs6 _ (by omega), wrM1 (by omega)]) (by rw [hs6 _ (by omega), wrM1 (by omega)]) (fun j hj => by rw [hs6 _ (by omega)])
    refine lqP (n := frz (bd I (x + 1 + 2)) n) (fun i => ∀ j, j < i → o j = ordN (bd I (x + 1 + 2)) j) (fun i => [some (.ref (x + 271)), some (.long y), none, some (.int (nI (frz (bd I (x + 1 + 2)) n))), some (.int (nI i))]) (fun j hj => by omega) (fun i hi hp ih => t241_34 ?_) (fun hp => absurd hp ha)
    have e6 : I6 (x + 271 + 6) i = nI (o i) := hr6 i (by omega)
    have e1 : I6 (x + 271 + 1) (46 + i) = nI (ordN (bd I (x + 1 + 2)) i) := by rw [r6, (h.r.2.1 i (by omega)).2.2.2.2, (hol i (by omega)).1]
    have b1 := go i (by omega)
    have b2 := (hol i (by omega)).2
    by_cases q : o i = ordN (bd I (x + 1 + 2)) i
    · simp (disch := omega) only [vpT, nI_leI, nI_ltI, nI_eq, nleT, nleF, nltT, nltF, neqT, neqF, nI_add, pk_mul, subN, divN, nI_clamp, mI1, wrH, wrM1, wrM2, wrowH, wrowM, bI0, bI1, kIi, kVi, kRi, kLi, kIx, kVx, Option.some.injEq, exists_eq_left', true_and, and_true, true_implies, false_implies, implies_true, not_true_eq_false, not_false_eq_true, true_or, or_true, false_or, or_false, forall_eq, iteT, iteF, LK_ hK, LM_ hK.m, LB_ hK.b, e6, e1, q]
      exact ih fun j hj => by
        by_cases w : j = i
        · rw [w]; exact q
        · exact hp j (by omega)
    · simp (disch := omega) only [vpT, nI_leI, nI_ltI, nI_eq, nleT, nleF, nltT, nltF, neqT, neqF, nI_add, pk_mul, subN, divN, nI_clamp, mI1, wrH, wrM1, wrM2, wrowH, wrowM, bI0, bI1, kIi, kVi, kRi, kLi, kIx, kVx, Option.some.injEq, exists_eq_left', true_and, and_true, true_implies, false_implies, implies_true, not_true_eq_false, not_false_eq_true, true_or, or_true, false_or, or_false, forall_eq, iteT, iteF, LK_ hK, LM_ hK.m, LB_ hK.b, e6, e1]
      exact fin
end CALLS12
