/-! The law's calls: change, close, open. -/
section CALLS4
variable {I0 I I2 I3 I5 : Nat → Nat → Int32} {J J2 : Nat → Nat → Int64} {L : hL} {x n sn dn ac fi tp sd c : Nat} {t : tl} {F : Int32 → hp → Prop} {G : hp → Prop} {X : Nat → hp → Prop} {d e z l : Nat} {ex : Bool}
--facts LK_ hK, LM_ hK.m, LB_ hK.b
theorem ch_fin {c w fi' s : Nat} {v : Int32} {g1 g2 g3 : rw1} (hK : LK L x) (h : SX I0 I x n sn dn ac fi tp sd) (hc : c < n) (hw : w < 3) (hC : KC I I3 x ac fi fi' s) (hs : same I I3 (cA x s)) (hv : w = 0 ∧ nI 0 ≤ v ∧ v ≤ nI 999 ∨ w = 1 ∧ bRe (bd I (x + 1 + 2)) c ≤ v ∧ v ≤ nI 1999 ∨ w = 2 ∧ nI 0 ≤ v ∧ v ≤ nI 20)
  (eb : bd I3 (x + 1 + 2) = (I (x + 1 + 2), I (x + 1 + 2 + 1), g1, g2, g3, (bd I (x + 1 + 2)).2.2.2.2.2)) (hV : VL (bd I3 (x + 1 + 2)) n sn dn) (ho : ∀ k, k < n → k ≠ c → g1 k = bRe (bd I (x + 1 + 2)) k ∧ g2 k = bLa (bd I (x + 1 + 2)) k ∧ g3 k = bWe (bd I (x + 1 + 2)) k) (c1 : g1 c = if w = 0 then v else bRe (bd I (x + 1 + 2)) c) (c3 : g3 c = if w = 2 then v else bWe (bd I (x + 1 + 2)) c) (c2 : g2 c = if w = 0 then (if bLa (bd I (x + 1 + 2)) c < v then v else bLa (bd I (x + 1 + 2)) c) else if w = 1 then v else bLa (bd I (x + 1 + 2)) c) :
  MD I0 L x 226 e [.int (nI c), .int (nI w), .int v] (fun r2 => r2 = I (x + 271 + 1) (6 + 4 * c + 1 + w)) 0 t (L, I3, J, t) := by
  have hn := h.n10
  have hs4 := h.i.2.1.2
  have hd20 := h.i.2.2.1.2
  have em : ∀ a, x + 271 ≤ a ∨ a < x → I3 a = I a := fun a ha => hs a (by have := hC.1; omega)
  refine ⟨I3, J, rfl, (by first | exact h.2.2.2.2 | exact fun a ha => (em a (Or.inr ha)).trans (h.2.2.2.2 a ha) | exact fun a ha => (em2 a (Or.inr ha)).trans (h.2.2.2.2 a ha) | exact fun a ha => (hs a (by omega)).trans (h.2.2.2.2 a ha) | exact fun a ha => (wrM1 (by omega)).trans ((em a (Or.inr ha)).trans (h.2.2.2.2 a ha)) | exact fun a ha => (e3 a (by omega)).trans ((em a (Or.inr ha)).trans (h.2.2.2.2 a ha)) | exact fun a ha => (cs a (by omega) (by omega)).trans (h.2.2.2.2 a ha) | exact fun a ha => (hs2 a (by omega)).trans (h.2.2.2.2 a ha) | exact fun a ha => (e3 a (by omega) (by omega)).trans (h.2.2.2.2 a ha) | exact fun a ha => (e3 a (by omega) (by omega) (by omega) (by omega)).trans (h.2.2.2.2 a ha) | exact fun a ha => (hs5 a (by omega)).trans ((hs4' a (by omega)).trans ((hs3' a (by omega)).trans ((hs2 a (by omega)).trans (h.2.2.2.2 a ha)))) | (intro a ha; (try rw [wrM1 (by omega)]); (try rw [hs6 a (by omega)]); (try rw [hs5 a (by omega)]); (try rw [e5 a (by omega)]); (try rw [hs4 a (by omega)]); (try rw [e4 a (by omega)]); (try rw [hs3 a (by omega)]); (try rw [e3 a (by omega)]); (try rw [wrM1 (by omega)]); (try rw [hs2 a (by omega)]); (try rw [e2 a (by omega)]); (try rw [em2 a (Or.inr ha)]); (try rw [cs a (by omega) (by omega)]); (try rw [hs1 a (by omega)]); (try rw [hs a (by omega)]); (try rw [em a (Or.inr ha)]); exact h.2.2.2.2 a ha)), fun J2 => e226 (t226_0 ?_)⟩
  simp (disch := omega) only [vpT, nI_leI, nI_ltI, nI_eq, nleT, nleF, nltT, nltF, neqT, neqF, nI_add, pk_mul, subN, divN, nI_clamp, mI1, wrH, wrM1, wrM2, wrowH, wrowM, bI0, bI1, kIi, kVi, kRi, kLi, kIx, kVx, Option.some.injEq, exists_eq_left', true_and, and_true, true_implies, false_implies, implies_true, not_true_eq_false, not_false_eq_true, true_or, or_true, false_or, or_false, forall_eq, iteT, iteF, LK_ hK, LM_ hK.m, LB_ hK.b]
  refine mp_isCraftT hK.m (by rw [wrM1 (by omega), em _ (by omega)]; exact h.m0) hn ⟨nI_leI (by decide) (by omega) |>.mpr (by omega), nI_ltI (by omega) (by omega) |>.mpr hc⟩ (t226_11 ?_)
  simp (disch := omega) only [vpT, nI_leI, nI_ltI, nI_eq, nleT, nleF, nltT, nltF, neqT, neqF, nI_add, pk_mul, subN, divN, nI_clamp, mI1, wrH, wrM1, wrM2, wrowH, wrowM, bI0, bI1, kIi, kVi, kRi, kLi, kIx, kVx, Option.some.injEq, exists_eq_left', true_and, and_true, true_implies, false_implies, implies_true, not_true_eq_false, not_false_eq_true, true_or, or_true, false_or, or_false, forall_eq, iteT, iteF, LK_ hK, LM_ hK.m, LB_ hK.b]
  refine mp_inT (lo := nI 0) (hi := nI 2) rfl rfl ⟨nI_leI (by decide) (by omega) |>.mpr (by omega), nI_leI (by omega) (by omega) |>.mpr (by omega)⟩ (t226_23 ?_)
  simp (disch := omega) only [vpT, nI_leI, nI_ltI, nI_eq, nleT, nleF, nltT, nltF, neqT, neqF, nI_add, pk_mul, subN, divN, nI_clamp, mI1, wrH, wrM1, wrM2, wrowH, wrowM, bI0, bI1, kIi, kVi, kRi, kLi, kIx, kVx, Option.some.injEq, exists_eq_left', true_and, and_true, true_implies, false_implies, implies_true, not_true_eq_false, not_false_eq_true, true_or, or_true, false_or, or_false, forall_eq, iteT, iteF, LK_ hK, LM_ hK.m, LB_ hK.b]
  refine mp_rightT hK.m (wrH rfl rfl) (t226_35 ?_)
  have e1 := (h.r.2.1 c hc)
  have fin : Wp (cal (e + 39)) kc_226 [] (kI (fun r2 h3 => r2 = I (x + 271 + 1) (6 + 4 * c + 1 + w) ∧ FN I0 L x 0 J2 t h3) (fun _ _ => False)) (88, [some (.ref (x + 271)), some (.int (nI c)), some (.int (nI w)), some (.int v), none, none, none], [.int (nI 1)], (L, wr I3 (x + 271) 0 (nI 0), J2, t)) := by
    refine t226_88 ?_
    simp (disch := omega) only [vpT, nI_leI, nI_ltI, nI_eq, nleT, nleF, nltT, nltF, neqT, neqF, nI_add, pk_mul, subN, divN, nI_clamp, mI1, wrH, wrM1, wrM2, wrowH, wrowM, bI0, bI1, kIi, kVi, kRi, kLi, kIx, kVx, Option.some.injEq, exists_eq_left', true_and, and_true, true_implies, false_implies, implies_true, not_true_eq_false, not_false_eq_true, true_or, or_true, false_or, or_false, forall_eq, iteT, iteF, LK_ hK, LM_ hK.m, LB_ hK.b]
    refine mp_rightT hK.m (wrH rfl rfl) (t226_97 ?_)
    simp (disch := omega) only [vpT, nI_leI, nI_ltI, nI_eq, nleT, nleF, nltT, nltF, neqT, neqF, nI_add, pk_mul, subN, divN, nI_clamp, mI1, wrH, wrM1, wrM2, wrowH, wrowM, bI0, bI1, kIi, kVi, kRi, kLi, kIx, kVx, Option.some.injEq, exists_eq_left', true_and, and_true, true_implies, false_implies, implies_true, not_true_eq_false, not_false_eq_true, true_or, or_true, false_or, or_false, forall_eq, iteT, iteF, LK_ hK, LM_ hK.m, LB_ hK.b]
    refine mp_kp hK h (by rw [wrM2 (by omega), em _ (by omega)]) (by rw [wrM1 (by omega), em _ (by omega)]) (by rw [wrM1 (by omega), em _ (by omega)]) fun I4 hs4' hf4 hP4 => t226_106 ?_
    have r4 : I4 (x + 271 + 1) = I (x + 271 + 1) := by rw [hs4' _ (by omega), wrM1 (by omega), em _ (by omega)]
    have frm : ∀ I5, same I4 I5 (fun a => a = x + 271 + 1) → Rel (I5 (x + 271 + 1)) (bd I3 (x + 1 + 2)) n sn dn → FN I0 L x 0 J2 t (L, I5, J2, t) := by
      intro I5 hs5 hR5
      refine fb (n' := n) (sn' := sn) (dn' := dn) h hC hs (fun q hq => by rw [hs5 q (by omega), hs4' q (by omega), wrM1 (by omega)]) (hP4.fr (by rw [hs5 _ (by omega)]) (by rw [hs5 _ (by omega)])) (fun j hj => by rw [hs5 _ (by omega), hf4 j (by omega), wrM2 (by omega)]) (by rw [hs5 _ (by omega), hf4 0 (by omega)]; exact wrH rfl rfl) hV hR5
    have rel : ∀ r' : rw1, (∀ j, j < 189 → j ≠ 6 + 4 * c + 1 → j ≠ 6 + 4 * c + 2 → j ≠ 6 + 4 * c + 3 → r' j = I (x + 271 + 1) j) → r' (6 + 4 * c + 1) = g1 c → r' (6 + 4 * c + 2) = g2 c → r' (6 + 4 * c + 3) = g3 c → Rel r' (bd I3 (x + 1 + 2)) n sn dn := by
      intro r' k0 k1 k2 k3
      rw [eb]
      refine Rel.rlw (S := bd I (x + 1 + 2)) h.r hn hs4 hd20 (fun k hk => ?_) (fun j j1 j2 => k0 j j1 (by omega) (by omega) (by omega))
      by_cases ek : k = c
      · subst ek
        exact ⟨k0 _ (by omega) (by omega) (by omega) (by omega), k1, k2, k3⟩
      · obtain ⟨o1, o2, o3⟩ := ho k hk ek
        have := h.r.2.1 k hk
        refine ⟨k0 _ (by omega) (by omega) (by omega) (by omega), ?_, ?_, ?_⟩
        · rw [k0 _ (by omega) (by omega) (by omega) (by omega), o1]; exact this.2.1
        · rw [k0 _ (by omega) (by omega) (by omega) (by omega), o2]; exact this.2.2.1
        · rw [k0 _ (by omega) (by omega) (by omega) (by omega), o3]; exact this.2.2.2.1
    have hw3 : w = 0 ∨ w = 1 ∨ w = 2 := by omega
    rcases hw3 with rfl | rfl | rfl
    · simp (disch := omega) only [vpT, nI_leI, nI_ltI, nI_eq, nleT, nleF, nltT, nltF, neqT, neqF, nI_add, pk_mul, subN, divN, nI_clamp, mI1, wrH, wrM1, wrM2, wrowH, wrowM, bI0, bI1, kIi, kVi, kRi, kLi, kIx, kVx, Option.some.injEq, exists_eq_left', true_and, and_true, true_implies, false_implies, implies_true, not_true_eq_false, not_false_eq_true, true_or, or_true, false_or, or_false, forall_eq, iteT, iteF, LK_ hK, LM_ hK.m, LB_ hK.b, r4, e1.2.2.1]
      refine frm _ (fun q hq => by rw [wrM1 hq, wrM1 hq]) (rel _ (fun j j0 j1 j2 j3 => by simp (disch := omega) only [vpT, nI_leI, nI_ltI, nI_eq, nleT, nleF, nltT, nltF, neqT, neqF, nI_add, pk_mul, subN, divN, nI_clamp, mI1, wrH, wrM1, wrM2, wrowH, wrowM, bI0, bI1, kIi, kVi, kRi, kLi, kIx, kVx, Option.some.injEq, exists_eq_left', true_and, and_true, true_implies, false_implies, implies_true, not_true_eq_false, not_false_eq_true, true_or, or_true, false_or, or_false, forall_eq, iteT, iteF, LK_ hK, LM_ hK.m, LB_ hK.b, r4]) (by rw [c1, if_pos rfl]; simp (disch := omega) only [vpT, nI_leI, nI_ltI, nI_eq, nleT, nleF, nltT, nltF, neqT, neqF, nI_add, pk_mul, subN, divN, nI_clamp, mI1, wrH, wrM1, wrM2, wrowH, wrowM, bI0, bI1, kIi, kVi, kRi, kLi, kIx, kVx, Option.some.injEq, exists_eq_left', true_and, and_true, true_implies, false_implies, implies_true, not_true_eq_false, not_false_eq_true, true_or, or_true, false_or, or_false, forall_eq, iteT, iteF, LK_ hK, LM_ hK.m, LB_ hK.b]) (by rw [c2, if_pos rfl]; simp (disch := omega) only [vpT, nI_leI, nI_ltI, nI_eq, nleT, nleF, nltT, nltF, neqT, neqF, nI_add, pk_mul, subN, divN, nI_clamp, mI1, wrH, wrM1, wrM2, wrowH, wrowM, bI0, bI1, kIi, kVi, kRi, kLi, kIx, kVx, Option.some.injEq, exists_eq_left', true_and, and_true, true_implies, false_implies, implies_true, not_true_eq_false, not_false_eq_true, true_or, or_true, false_or, or_false, forall_eq, iteT, iteF, LK_ hK, LM_ hK.m, LB_ hK.b]) (by rw [c3, if_neg (show ¬ (0 = 2) by decide)]; simp (disch := omega) only [vpT, nI_leI, nI_ltI, nI_eq, nleT, nleF, nltT, nltF, neqT, neqF, nI_add, pk_mul, subN, divN, nI_clamp, mI1, wrH, wrM1, wrM2, wrowH, wrowM, bI0, bI1, kIi, kVi, kRi, kLi, kIx, kVx, Option.some.injEq, exists_eq_left', true_and, and_true, true_implies, false_implies, implies_true, not_true_eq_false, not_false_eq_true, true_or, or_true, false_or, or_false, forall_eq, iteT, iteF, LK_ hK, LM_ hK.m, LB_ hK.b, r4]; exact e1.2.2.2.1))
    · have hv1 := (hv.resolve_left (by omega)).resolve_right (by omega)
      have n1 : (v < bRe (bd I (x + 1 + 2)) c) = False := eq_false (Int32.not_lt.mpr hv1.2.1)
      simp (disch := omega) only [vpT, nI_leI, nI_ltI, nI_eq, nleT, nleF, nltT, nltF, neqT, neqF, nI_add, pk_mul, subN, divN, nI_clamp, mI1, wrH, wrM1, wrM2, wrowH, wrowM, bI0, bI1, kIi, kVi, kRi, kLi, kIx, kVx, Option.some.injEq, exists_eq_left', true_and, and_true, true_implies, false_implies, implies_true, not_true_eq_false, not_false_eq_true, true_or, or_true, false_or, or_false, forall_eq, iteT, iteF, LK_ hK, LM_ hK.m, LB_ hK.b, r4, e1.2.1, n1]
      refine frm _ (fun q hq => by rw [wrM1 hq, wrM1 hq]) (rel _ (fun j j0 j1 j2 j3 => by simp (disch := omega) only [vpT, nI_leI, nI_ltI, nI_eq, nleT, nleF, nltT, nltF, neqT, neqF, nI_add, pk_mul, subN, divN, nI_clamp, mI1, wrH, wrM1, wrM2, wrowH, wrowM, bI0, bI1, kIi, kVi, kRi, kLi, kIx, kVx, Option.some.injEq, exists_eq_left', true_and, and_true, true_implies, false_implies, implies_true, not_true_eq_false, not_false_eq_true, true_or, or_true, false_or, or_false, forall_eq, iteT, iteF, LK_ hK, LM_ hK.m, LB_ hK.b, r4]) (by rw [c1, if_neg (by decide)]; simp (disch := omega) only [vpT, nI_leI, nI_ltI, nI_eq, nleT, nleF, nltT, nltF, neqT, neqF, nI_add, pk_mul, subN, divN, nI_clamp, mI1, wrH, wrM1, wrM2, wrowH, wrowM, bI0, bI1, kIi, kVi, kRi, kLi, kIx, kVx, Option.some.injEq, exists_eq_left', true_and, and_true, true_implies, false_implies, implies_true, not_true_eq_false, not_false_eq_true, true_or, or_true, false_or, or_false, forall_eq, iteT, iteF, LK_ hK, LM_ hK.m, LB_ hK.b, r4]; exact e1.2.1) (by rw [c2, if_neg (show ¬ (1 = 0) by decide), if_pos rfl]; simp (disch := omega) only [vpT, nI_leI, nI_ltI, nI_eq, nleT, nleF, nltT, nltF, neqT, neqF, nI_add, pk_mul, subN, divN, nI_clamp, mI1, wrH, wrM1, wrM2, wrowH, wrowM, bI0, bI1, kIi, kVi, kRi, kLi, kIx, kVx, Option.some.injEq, exists_eq_left', true_and, and_true, true_implies, false_implies, implies_true, not_true_eq_false, not_false_eq_true, true_or, or_true, false_or, or_false, forall_eq, iteT, iteF, LK_ hK, LM_ hK.m, LB_ hK.b]) (by rw [c3, if_neg (by decide)]; simp (disch := omega) only [vpT, nI_leI, nI_ltI, nI_eq, nleT, nleF, nltT, nltF, neqT, neqF, nI_add, pk_mul, subN, divN, nI_clamp, mI1, wrH, wrM1, wrM2, wrowH, wrowM, bI0, bI1, kIi, kVi, kRi, kLi, kIx, kVx, Option.some.injEq, exists_eq_left', true_and, and_true, true_implies, false_implies, implies_true, not_true_eq_false, not_false_eq_true, true_or, or_true, false_or, or_false, forall_eq, iteT, iteF, LK_ hK, LM_ hK.m, LB_ hK.b, r4]; exact e1.2.2.2.1))
    · have n1 : (bLa (bd I (x + 1 + 2)) c < bRe (bd I (x + 1 + 2)) c) = False := eq_false (Int32.not_lt.mpr (h.1.1.2 c hc))
      simp (disch := omega) only [vpT, nI_leI, nI_ltI, nI_eq, nleT, nleF, nltT, nltF, neqT, neqF, nI_add, pk_mul, subN, divN, nI_clamp, mI1, wrH, wrM1, wrM2, wrowH, wrowM, bI0, bI1, kIi, kVi, kRi, kLi, kIx, kVx, Option.some.injEq, exists_eq_left', true_and, and_true, true_implies, false_implies, implies_true, not_true_eq_false, not_false_eq_true, true_or, or_true, false_or, or_false, forall_eq, iteT, iteF, LK_ hK, LM_ hK.m, LB_ hK.b, r4, e1.2.1, e1.2.2.1, n1]
      refine frm _ (fun q hq => by rw [wrM1 hq, wrM1 hq]) (rel _ (fun j j0 j1 j2 j3 => by simp (disch := omega) only [vpT, nI_leI, nI_ltI, nI_eq, nleT, nleF, nltT, nltF, neqT, neqF, nI_add, pk_mul, subN, divN, nI_clamp, mI1, wrH, wrM1, wrM2, wrowH, wrowM, bI0, bI1, kIi, kVi, kRi, kLi, kIx, kVx, Option.some.injEq, exists_eq_left', true_and, and_true, true_implies, false_implies, implies_true, not_true_eq_false, not_false_eq_true, true_or, or_true, false_or, or_false, forall_eq, iteT, iteF, LK_ hK, LM_ hK.m, LB_ hK.b, r4]) (by rw [c1, if_neg (by decide)]; simp (disch := omega) only [vpT, nI_leI, nI_ltI, nI_eq, nleT, nleF, nltT, nltF, neqT, neqF, nI_add, pk_mul, subN, divN, nI_clamp, mI1, wrH, wrM1, wrM2, wrowH, wrowM, bI0, bI1, kIi, kVi, kRi, kLi, kIx, kVx, Option.some.injEq, exists_eq_left', true_and, and_true, true_implies, false_implies, implies_true, not_true_eq_false, not_false_eq_true, true_or, or_true, false_or, or_false, forall_eq, iteT, iteF, LK_ hK, LM_ hK.m, LB_ hK.b, r4]; exact e1.2.1) (by rw [c2, if_neg (show ¬ (2 = 0) by decide), if_neg (show ¬ (2 = 1) by decide)]; simp (disch := omega) only [vpT, nI_leI, nI_ltI, nI_eq, nleT, nleF, nltT, nltF, neqT, neqF, nI_add, pk_mul, subN, divN, nI_clamp, mI1, wrH, wrM1, wrM2, wrowH, wrowM, bI0, bI1, kIi, kVi, kRi, kLi, kIx, kVx, Option.some.injEq, exists_eq_left', true_and, and_true, true_implies, false_implies, implies_true, not_true_eq_false, not_false_eq_true, true_or, or_true, false_or, or_false, forall_eq, iteT, iteF, LK_ hK, LM_ hK.m, LB_ hK.b]) (by rw [c3, if_pos rfl]; simp (disch := omega) only [vpT, nI_leI, nI_ltI, nI_eq, nleT, nleF, nltT, nltF, neqT, neqF, nI_add, pk_mul, subN, divN, nI_clamp, mI1, wrH, wrM1, wrM2, wrowH, wrowM, bI0, bI1, kIi, kVi, kRi, kLi, kIx, kVx, Option.some.injEq, exists_eq_left', true_and, and_true, true_implies, false_implies, implies_true, not_true_eq_false, not_false_eq_true, true_or, or_true, false_or, or_false, forall_eq, iteT, iteF, LK_ hK, LM_ hK.m, LB_ hK.b]))
  rcases hv with ⟨rfl, v1, v2⟩ | ⟨rfl, v1, v2⟩ | ⟨rfl, v1, v2⟩
  · simp (disch := omega) only [vpT, nI_leI, nI_ltI, nI_eq, nleT, nleF, nltT, nltF, neqT, neqF, nI_add, pk_mul, subN, divN, nI_clamp, mI1, wrH, wrM1, wrM2, wrowH, wrowM, bI0, bI1, kIi, kVi, kRi, kLi, kIx, kVx, Option.some.injEq, exists_eq_left', true_and, and_true, true_implies, false_implies, implies_true, not_true_eq_false, not_false_eq_true, true_or, or_true, false_or, or_false, forall_eq, iteT, iteF, LK_ hK, LM_ hK.m, LB_ hK.b]
    exact mp_inT (lo := nI 0) (hi := nI 999) rfl rfl ⟨v1, v2⟩ (t226_53 fin)
  · simp (disch := omega) only [vpT, nI_leI, nI_ltI, nI_eq, nleT, nleF, nltT, nltF, neqT, neqF, nI_add, pk_mul, subN, divN, nI_clamp, mI1, wrH, wrM1, wrM2, wrowH, wrowM, bI0, bI1, kIi, kVi, kRi, kLi, kIx, kVx, Option.some.injEq, exists_eq_left', true_and, and_true, true_implies, false_implies, implies_true, not_true_eq_false, not_false_eq_true, true_or, or_true, false_or, or_false, forall_eq, iteT, iteF, LK_ hK, LM_ hK.m, LB_ hK.b]
    refine mp_ofCraft (w := 1) hK.m (show c < 10 by omega) (by decide) (t226_69 ?_)
    have ex1 : wr I3 (x + 271) 0 (nI 0) (x + 271 + 1) (6 + 4 * c + 1) = bRe (bd I (x + 1 + 2)) c := by rw [wrM1 (by omega), em _ (by omega)]; exact e1.2.1
    rw [ex1]
    exact mp_inT (hi := nI 1999) rfl rfl ⟨v1, v2⟩ (t226_76 fin)
  · simp (disch := omega) only [vpT, nI_leI, nI_ltI, nI_eq, nleT, nleF, nltT, nltF, neqT, neqF, nI_add, pk_mul, subN, divN, nI_clamp, mI1, wrH, wrM1, wrM2, wrowH, wrowM, bI0, bI1, kIi, kVi, kRi, kLi, kIx, kVx, Option.some.injEq, exists_eq_left', true_and, and_true, true_implies, false_implies, implies_true, not_true_eq_false, not_false_eq_true, true_or, or_true, false_or, or_false, forall_eq, iteT, iteF, LK_ hK, LM_ hK.m, LB_ hK.b]
    exact mp_inT (lo := nI 0) (hi := nI 20) rfl rfl ⟨v1, v2⟩ fin
theorem P_change {p1 p2 p3 : Int32} (hK : LK L x) (h : SX I0 I x n sn dn ac fi tp sd) : PR I0 L x 108 226 1 0 d e [.int p1, .int p2, .int p3] I J z l ex := by
  have hn := h.n10
  refine e108 (t108_0 ?_)
  simp (disch := omega) only [vpT, nI_leI, nI_ltI, nI_eq, nleT, nleF, nltT, nltF, neqT, neqF, nI_add, pk_mul, subN, divN, nI_clamp, mI1, wrH, wrM1, wrM2, wrowH, wrowM, bI0, bI1, kIi, kVi, kRi, kLi, kIx, kVx, Option.some.injEq, exists_eq_left', true_and, and_true, true_implies, false_implies, implies_true, not_true_eq_false, not_false_eq_true, true_or, or_true, false_or, or_false, forall_eq, iteT, iteF, LK_ hK, LM_ hK.m, LB_ hK.b, h.n0]
  refine sp_checkElement (fun q => Or.inl ⟨rfl, (by unfold NE9; decide), I, J, rfl, (by first | exact h.2.2.2.2 | exact fun a ha => (em a (Or.inr ha)).trans (h.2.2.2.2 a ha) | exact fun a ha => (em2 a (Or.inr ha)).trans (h.2.2.2.2 a ha) | exact fun a ha => (hs a (by omega)).trans (h.2.2.2.2 a ha) | exact fun a ha => (wrM1 (by omega)).trans ((em a (Or.inr ha)).trans (h.2.2.2.2 a ha)) | exact fun a ha => (e3 a (by omega)).trans ((em a (Or.inr ha)).trans (h.2.2.2.2 a ha)) | exact fun a ha => (cs a (by omega) (by omega)).trans (h.2.2.2.2 a ha) | exact fun a ha => (hs2 a (by omega)).trans (h.2.2.2.2 a ha) | exact fun a ha => (e3 a (by omega) (by omega)).trans (h.2.2.2.2 a ha) | exact fun a ha => (e3 a (by omega) (by omega) (by omega) (by omega)).trans (h.2.2.2.2 a ha) | exact fun a ha => (hs5 a (by omega)).trans ((hs4' a (by omega)).trans ((hs3' a (by omega)).trans ((hs2 a (by omega)).trans (h.2.2.2.2 a ha)))) | (intro a ha; (try rw [wrM1 (by omega)]); (try rw [hs6 a (by omega)]); (try rw [hs5 a (by omega)]); (try rw [e5 a (by omega)]); (try rw [hs4 a (by omega)]); (try rw [e4 a (by omega)]); (try rw [hs3 a (by omega)]); (try rw [e3 a (by omega)]); (try rw [wrM1 (by omega)]); (try rw [hs2 a (by omega)]); (try rw [e2 a (by omega)]); (try rw [em2 a (Or.inr ha)]); (try rw [cs a (by omega) (by omega)]); (try rw [hs1 a (by omega)]); (try rw [hs a (by omega)]); (try rw [em a (Or.inr ha)]); exact h.2.2.2.2 a ha)), fun J2 => e226 (t226_0 ?_)⟩) (fun q1 q2 => t108_14 ?_)
  · simp (disch := omega) only [vpT, nI_leI, nI_ltI, nI_eq, nleT, nleF, nltT, nltF, neqT, neqF, nI_add, pk_mul, subN, divN, nI_clamp, mI1, wrH, wrM1, wrM2, wrowH, wrowM, bI0, bI1, kIi, kVi, kRi, kLi, kIx, kVx, Option.some.injEq, exists_eq_left', true_and, and_true, true_implies, false_implies, implies_true, not_true_eq_false, not_false_eq_true, true_or, or_true, false_or, or_false, forall_eq, iteT, iteF, LK_ hK, LM_ hK.m, LB_ hK.b]
    refine mp_isCraftF hK.m (by rw [wrM1 (by omega)]; exact h.m0) hn q (t226_11 ?_)
    simp (disch := omega) only [vpT, nI_leI, nI_ltI, nI_eq, nleT, nleF, nltT, nltF, neqT, neqF, nI_add, pk_mul, subN, divN, nI_clamp, mI1, wrH, wrM1, wrM2, wrowH, wrowM, bI0, bI1, kIi, kVi, kRi, kLi, kIx, kVx, Option.some.injEq, exists_eq_left', true_and, and_true, true_implies, false_implies, implies_true, not_true_eq_false, not_false_eq_true, true_or, or_true, false_or, or_false, forall_eq, iteT, iteF, LK_ hK, LM_ hK.m, LB_ hK.b]
    refine mp_rightF hK.m (wrH rfl rfl) (by decide) (by decide) (t226_35 ?_)
    simp (disch := omega) only [vpT, nI_leI, nI_ltI, nI_eq, nleT, nleF, nltT, nltF, neqT, neqF, nI_add, pk_mul, subN, divN, nI_clamp, mI1, wrH, wrM1, wrM2, wrowH, wrowM, bI0, bI1, kIi, kVi, kRi, kLi, kIx, kVx, Option.some.injEq, exists_eq_left', true_and, and_true, true_implies, false_implies, implies_true, not_true_eq_false, not_false_eq_true, true_or, or_true, false_or, or_false, forall_eq, iteT, iteF, LK_ hK, LM_ hK.m, LB_ hK.b]
    exact ff h same.rf rfl
  refine sp_checkElement (fun q => Or.inl ⟨rfl, (by unfold NE9; decide), I, J, rfl, (by first | exact h.2.2.2.2 | exact fun a ha => (em a (Or.inr ha)).trans (h.2.2.2.2 a ha) | exact fun a ha => (em2 a (Or.inr ha)).trans (h.2.2.2.2 a ha) | exact fun a ha => (hs a (by omega)).trans (h.2.2.2.2 a ha) | exact fun a ha => (wrM1 (by omega)).trans ((em a (Or.inr ha)).trans (h.2.2.2.2 a ha)) | exact fun a ha => (e3 a (by omega)).trans ((em a (Or.inr ha)).trans (h.2.2.2.2 a ha)) | exact fun a ha => (cs a (by omega) (by omega)).trans (h.2.2.2.2 a ha) | exact fun a ha => (hs2 a (by omega)).trans (h.2.2.2.2 a ha) | exact fun a ha => (e3 a (by omega) (by omega)).trans (h.2.2.2.2 a ha) | exact fun a ha => (e3 a (by omega) (by omega) (by omega) (by omega)).trans (h.2.2.2.2 a ha) | exact fun a ha => (hs5 a (by omega)).trans ((hs4' a (by omega)).trans ((hs3' a (by omega)).trans ((hs2 a (by omega)).trans (h.2.2.2.2 a ha)))) | (intro a ha; (try rw [wrM1 (by omega)]); (try rw [hs6 a (by omega)]); (try rw [hs5 a (by omega)]); (try rw [e5 a (by omega)]); (try rw [hs4 a (by omega)]); (try rw [e4 a (by omega)]); (try rw [hs3 a (by omega)]); (try rw [e3 a (by omega)]); (try rw [wrM1 (by omega)]); (try rw [hs2 a (by omega)]); (try rw [e2 a (by omega)]); (try rw [em2 a (Or.inr ha)]); (try rw [cs a (by omega) (by omega)]); (try rw [hs1 a (by omega)]); (try rw [hs a (by omega)]); (try rw [em a (Or.inr ha)]); exact h.2.2.2.2 a ha)), fun J2 => e226 (t226_0 ?_)⟩) (fun q3 q4 => t108_19 ?_)
  · simp (disch := omega) only [vpT, nI_leI, nI_ltI, nI_eq, nleT, nleF, nltT, nltF, neqT, neqF, nI_add, pk_mul, subN, divN, nI_clamp, mI1, wrH, wrM1, wrM2, wrowH, wrowM, bI0, bI1, kIi, kVi, kRi, kLi, kIx, kVx, Option.some.injEq, exists_eq_left', true_and, and_true, true_implies, false_implies, implies_true, not_true_eq_false, not_false_eq_true, true_or, or_true, false_or, or_false, forall_eq, iteT, iteF, LK_ hK, LM_ hK.m, LB_ hK.b]
    refine mp_isCraftT hK.m (by rw [wrM1 (by omega)]; exact h.m0) hn ⟨q1, q2⟩ (t226_11 ?_)
    simp (disch := omega) only [vpT, nI_leI, nI_ltI, nI_eq, nleT, nleF, nltT, nltF, neqT, neqF, nI_add, pk_mul, subN, divN, nI_clamp, mI1, wrH, wrM1, wrM2, wrowH, wrowM, bI0, bI1, kIi, kVi, kRi, kLi, kIx, kVx, Option.some.injEq, exists_eq_left', true_and, and_true, true_implies, false_implies, implies_true, not_true_eq_false, not_false_eq_true, true_or, or_true, false_or, or_false, forall_eq, iteT, iteF, LK_ hK, LM_ hK.m, LB_ hK.b]
    refine mp_inF (lo := nI 0) (hi := nI 2) rfl rfl (fun q' => q ⟨q'.1, (lt_le (by decide)).mpr q'.2⟩) (t226_23 ?_)
    simp (disch := omega) only [vpT, nI_leI, nI_ltI, nI_eq, nleT, nleF, nltT, nltF, neqT, neqF, nI_add, pk_mul, subN, divN, nI_clamp, mI1, wrH, wrM1, wrM2, wrowH, wrowM, bI0, bI1, kIi, kVi, kRi, kLi, kIx, kVx, Option.some.injEq, exists_eq_left', true_and, and_true, true_implies, false_implies, implies_true, not_true_eq_false, not_false_eq_true, true_or, or_true, false_or, or_false, forall_eq, iteT, iteF, LK_ hK, LM_ hK.m, LB_ hK.b]
    refine mp_rightF hK.m (wrH rfl rfl) (by decide) (by decide) (t226_35 ?_)
    simp (disch := omega) only [vpT, nI_leI, nI_ltI, nI_eq, nleT, nleF, nltT, nltF, neqT, neqF, nI_add, pk_mul, subN, divN, nI_clamp, mI1, wrH, wrM1, wrM2, wrowH, wrowM, bI0, bI1, kIi, kVi, kRi, kLi, kIx, kVx, Option.some.injEq, exists_eq_left', true_and, and_true, true_implies, false_implies, implies_true, not_true_eq_false, not_false_eq_true, true_or, or_true, false_or, or_false, forall_eq, iteT, iteF, LK_ hK, LM_ hK.m, LB_ hK.b]
    exact ff h same.rf rfl
  obtain ⟨c, hc, rfl⟩ := i_lt (by omega) q1 q2
  obtain ⟨w, hw, rfl⟩ := i_lt (by omega) q3 q4
  have e1 := (h.r.2.1 c hc)
  have hB := LB_ hK.b
  have bad : (w = 0 ∧ ¬ (nI 0 ≤ p3 ∧ p3 ≤ nI 999) ∨ w = 1 ∧ ¬ (bRe (bd I (x + 1 + 2)) c ≤ p3 ∧ p3 ≤ nI 1999) ∨ w = 2 ∧ ¬ (nI 0 ≤ p3 ∧ p3 ≤ nI 20)) → MD I0 L x 226 e [.int (nI c), .int (nI w), .int p3] (fun _ => True) 2 (z + 1, l + 6, false) (L, I, J, z + 1, l + 6, false) := by
    intro q
    refine ⟨I, J, rfl, (by first | exact h.2.2.2.2 | exact fun a ha => (em a (Or.inr ha)).trans (h.2.2.2.2 a ha) | exact fun a ha => (em2 a (Or.inr ha)).trans (h.2.2.2.2 a ha) | exact fun a ha => (hs a (by omega)).trans (h.2.2.2.2 a ha) | exact fun a ha => (wrM1 (by omega)).trans ((em a (Or.inr ha)).trans (h.2.2.2.2 a ha)) | exact fun a ha => (e3 a (by omega)).trans ((em a (Or.inr ha)).trans (h.2.2.2.2 a ha)) | exact fun a ha => (cs a (by omega) (by omega)).trans (h.2.2.2.2 a ha) | exact fun a ha => (hs2 a (by omega)).trans (h.2.2.2.2 a ha) | exact fun a ha => (e3 a (by omega) (by omega)).trans (h.2.2.2.2 a ha) | exact fun a ha => (e3 a (by omega) (by omega) (by omega) (by omega)).trans (h.2.2.2.2 a ha) | exact fun a ha => (hs5 a (by omega)).trans ((hs4' a (by omega)).trans ((hs3' a (by omega)).trans ((hs2 a (by omega)).trans (h.2.2.2.2 a ha)))) | (intro a ha; (try rw [wrM1 (by omega)]); (try rw [hs6 a (by omega)]); (try rw [hs5 a (by omega)]); (try rw [e5 a (by omega)]); (try rw [hs4 a (by omega)]); (try rw [e4 a (by omega)]); (try rw [hs3 a (by omega)]); (try rw [e3 a (by omega)]); (try rw [wrM1 (by omega)]); (try rw [hs2 a (by omega)]); (try rw [e2 a (by omega)]); (try rw [em2 a (Or.inr ha)]); (try rw [cs a (by omega) (by omega)]); (try rw [hs1 a (by omega)]); (try rw [hs a (by omega)]); (try rw [em a (Or.inr ha)]); exact h.2.2.2.2 a ha)), fun J2 => e226 (t226_0 ?_)⟩
    simp (disch := omega) only [vpT, nI_leI, nI_ltI, nI_eq, nleT, nleF, nltT, nltF, neqT, neqF, nI_add, pk_mul, subN, divN, nI_clamp, mI1, wrH, wrM1, wrM2, wrowH, wrowM, bI0, bI1, kIi, kVi, kRi, kLi, kIx, kVx, Option.some.injEq, exists_eq_left', true_and, and_true, true_implies, false_implies, implies_true, not_true_eq_false, not_false_eq_true, true_or, or_true, false_or, or_false, forall_eq, iteT, iteF, LK_ hK, LM_ hK.m, LB_ hK.b]
    refine mp_isCraftT hK.m (by rw [wrM1 (by omega)]; exact h.m0) hn ⟨q1, q2⟩ (t226_11 ?_)
    simp (disch := omega) only [vpT, nI_leI, nI_ltI, nI_eq, nleT, nleF, nltT, nltF, neqT, neqF, nI_add, pk_mul, subN, divN, nI_clamp, mI1, wrH, wrM1, wrM2, wrowH, wrowM, bI0, bI1, kIi, kVi, kRi, kLi, kIx, kVx, Option.some.injEq, exists_eq_left', true_and, and_true, true_implies, false_implies, implies_true, not_true_eq_false, not_false_eq_true, true_or, or_true, false_or, or_false, forall_eq, iteT, iteF, LK_ hK, LM_ hK.m, LB_ hK.b]
    refine mp_inT (lo := nI 0) (hi := nI 2) rfl rfl ⟨q3, (lt_le (by decide)).mp q4⟩ (t226_23 ?_)
    simp (disch := omega) only [vpT, nI_leI, nI_ltI, nI_eq, nleT, nleF, nltT, nltF, neqT, neqF, nI_add, pk_mul, subN, divN, nI_clamp, mI1, wrH, wrM1, wrM2, wrowH, wrowM, bI0, bI1, kIi, kVi, kRi, kLi, kIx, kVx, Option.some.injEq, exists_eq_left', true_and, and_true, true_implies, false_implies, implies_true, not_true_eq_false, not_false_eq_true, true_or, or_true, false_or, or_false, forall_eq, iteT, iteF, LK_ hK, LM_ hK.m, LB_ hK.b]
    refine mp_rightT hK.m (wrH rfl rfl) (t226_35 ?_)
    have fin : Wp (cal (e + 39)) kc_226 [] (kI (fun r2 h3 => FN I0 L x 2 J2 (z + 1, l + 6, false) h3) (fun _ _ => False)) (88, [some (.ref (x + 271)), some (.int (nI c)), some (.int (nI w)), some (.int p3), none, none, none], [.int (nI 0)], (L, wr I (x + 271) 0 (nI 0), J2, z + 1, l + 6, false)) := by
      refine t226_88 ?_
      simp (disch := omega) only [vpT, nI_leI, nI_ltI, nI_eq, nleT, nleF, nltT, nltF, neqT, neqF, nI_add, pk_mul, subN, divN, nI_clamp, mI1, wrH, wrM1, wrM2, wrowH, wrowM, bI0, bI1, kIi, kVi, kRi, kLi, kIx, kVx, Option.some.injEq, exists_eq_left', true_and, and_true, true_implies, false_implies, implies_true, not_true_eq_false, not_false_eq_true, true_or, or_true, false_or, or_false, forall_eq, iteT, iteF, LK_ hK, LM_ hK.m, LB_ hK.b]
      refine mp_rightF hK.m (wrH rfl rfl) (by decide) (by decide) (t226_97 ?_)
      simp (disch := omega) only [vpT, nI_leI, nI_ltI, nI_eq, nleT, nleF, nltT, nltF, neqT, neqF, nI_add, pk_mul, subN, divN, nI_clamp, mI1, wrH, wrM1, wrM2, wrowH, wrowM, bI0, bI1, kIi, kVi, kRi, kLi, kIx, kVx, Option.some.injEq, exists_eq_left', true_and, and_true, true_implies, false_implies, implies_true, not_true_eq_false, not_false_eq_true, true_or, or_true, false_or, or_false, forall_eq, iteT, iteF, LK_ hK, LM_ hK.m, LB_ hK.b]
      exact ff h same.rf rfl
    rcases q with ⟨rfl, v1⟩ | ⟨rfl, v1⟩ | ⟨rfl, v1⟩
    · simp (disch := omega) only [vpT, nI_leI, nI_ltI, nI_eq, nleT, nleF, nltT, nltF, neqT, neqF, nI_add, pk_mul, subN, divN, nI_clamp, mI1, wrH, wrM1, wrM2, wrowH, wrowM, bI0, bI1, kIi, kVi, kRi, kLi, kIx, kVx, Option.some.injEq, exists_eq_left', true_and, and_true, true_implies, false_implies, implies_true, not_true_eq_false, not_false_eq_true, true_or, or_true, false_or, or_false, forall_eq, iteT, iteF, LK_ hK, LM_ hK.m, LB_ hK.b]
      exact mp_inF (lo := nI 0) (hi := nI 999) rfl rfl v1 (t226_53 fin)
    · simp (disch := omega) only [vpT, nI_leI, nI_ltI, nI_eq, nleT, nleF, nltT, nltF, neqT, neqF, nI_add, pk_mul, subN, divN, nI_clamp, mI1, wrH, wrM1, wrM2, wrowH, wrowM, bI0, bI1, kIi, kVi, kRi, kLi, kIx, kVx, Option.some.injEq, exists_eq_left', true_and, and_true, true_implies, false_implies, implies_true, not_true_eq_false, not_false_eq_true, true_or, or_true, false_or, or_false, forall_eq, iteT, iteF, LK_ hK, LM_ hK.m, LB_ hK.b]
      refine mp_ofCraft (w := 1) hK.m (show c < 10 by omega) (by decide) (t226_69 ?_)
      have ex1 : wr I (x + 271) 0 (nI 0) (x + 271 + 1) (6 + 4 * c + 1) = bRe (bd I (x + 1 + 2)) c := by rw [wrM1 (by omega)]; exact e1.2.1
      rw [ex1]
      exact mp_inF (hi := nI 1999) rfl rfl v1 (t226_76 fin)
    · simp (disch := omega) only [vpT, nI_leI, nI_ltI, nI_eq, nleT, nleF, nltT, nltF, neqT, neqF, nI_add, pk_mul, subN, divN, nI_clamp, mI1, wrH, wrM1, wrM2, wrowH, wrowM, bI0, bI1, kIi, kVi, kRi, kLi, kIx, kVx, Option.some.injEq, exists_eq_left', true_and, and_true, true_implies, false_implies, implies_true, not_true_eq_false, not_false_eq_true, true_or, or_true, false_or, or_false, forall_eq, iteT, iteF, LK_ hK, LM_ hK.m, LB_ hK.b]
      exact mp_inF (lo := nI 0) (hi := nI 20) rfl rfl v1 fin
  have hw3 : w = 0 ∨ w = 1 ∨ w = 2 := by omega
  have hv1 := h.v.2.2.1.2.1
  rcases hw3 with rfl | rfl | rfl
  · simp (disch := omega) only [vpT, nI_leI, nI_ltI, nI_eq, nleT, nleF, nltT, nltF, neqT, neqF, nI_add, pk_mul, subN, divN, nI_clamp, mI1, wrH, wrM1, wrM2, wrowH, wrowM, bI0, bI1, kIi, kVi, kRi, kLi, kIx, kVx, Option.some.injEq, exists_eq_left', true_and, and_true, true_implies, false_implies, implies_true, not_true_eq_false, not_false_eq_true, true_or, or_true, false_or, or_false, forall_eq, iteT, iteF, LK_ hK, LM_ hK.m, LB_ hK.b]
    refine e109 (t109_0 ?_)
    refine sp_checkArgument (fun q => Or.inr ⟨rfl, (by unfold NE9; decide), bad (Or.inl ⟨rfl, q⟩)⟩) (fun q5 q6 => t109_8 ?_)
    simp (disch := omega) only [vpT, nI_leI, nI_ltI, nI_eq, nleT, nleF, nltT, nltF, neqT, neqF, nI_add, pk_mul, subN, divN, nI_clamp, mI1, wrH, wrM1, wrM2, wrowH, wrowM, bI0, bI1, kIi, kVi, kRi, kLi, kIx, kVx, Option.some.injEq, exists_eq_left', true_and, and_true, true_implies, false_implies, implies_true, not_true_eq_false, not_false_eq_true, true_or, or_true, false_or, or_false, forall_eq, iteT, iteF, LK_ hK, LM_ hK.m, LB_ hK.b]
    refine sp_cell (N := 10) hK h hB.2.2.1.2.1 hB.2.2.2.2.1 (by omega) (by decide) (by omega) (by omega) fun I2 fi' s hC hs2 => t109_26 ?_
    have ho : ∀ a, x + 3 ≤ a → a ≤ x + 15 → I2 a = I a := fun a r1 r2 => hs2 a (by omega)
    simp (disch := omega) only [vpT, nI_leI, nI_ltI, nI_eq, nleT, nleF, nltT, nltF, neqT, neqF, nI_add, pk_mul, subN, divN, nI_clamp, mI1, wrH, wrM1, wrM2, wrowH, wrowM, bI0, bI1, kIi, kVi, kRi, kLi, kIx, kVx, Option.some.injEq, exists_eq_left', true_and, and_true, true_implies, false_implies, implies_true, not_true_eq_false, not_false_eq_true, true_or, or_true, false_or, or_false, forall_eq, iteT, iteF, LK_ hK, LM_ hK.m, LB_ hK.b, ho]
    refine t108_62 ?_
    simp (disch := omega) only [vpT, nI_leI, nI_ltI, nI_eq, nleT, nleF, nltT, nltF, neqT, neqF, nI_add, pk_mul, subN, divN, nI_clamp, mI1, wrH, wrM1, wrM2, wrowH, wrowM, bI0, bI1, kIi, kVi, kRi, kLi, kIx, kVx, Option.some.injEq, exists_eq_left', true_and, and_true, true_implies, false_implies, implies_true, not_true_eq_false, not_false_eq_true, true_or, or_true, false_or, or_false, forall_eq, iteT, iteF, LK_ hK, LM_ hK.m, LB_ hK.b]
    generalize hI3 : wr (wr I2 (x + 1 + 2 + 2) c p3) (x + 1 + 2 + 3) c _ = I3
    have e3 : ∀ q, q ≠ x + 1 + 2 + 2 → q ≠ x + 1 + 2 + 3 → I3 q = I2 q := fun q hq hq2 => by rw [← hI3, wrM1 hq2, wrM1 hq]
    have e32 : ∀ j, I3 (x + 1 + 2 + 2) j = if j = c then p3 else I (x + 1 + 2 + 2) j := fun j => by
      rw [← hI3, wrM1 (by omega)]
      split <;> rename_i q
      · exact wrH rfl q
      · rw [wrM2 q, ho _ (by omega) (by omega)]
    have e33 : ∀ j, I3 (x + 1 + 2 + 3) j = if j = c then (if I (x + 1 + 2 + 3) c < p3 then p3 else I (x + 1 + 2 + 3) c) else I (x + 1 + 2 + 3) j := fun j => by
      rw [← hI3]
      by_cases q : j = c
      · rw [if_pos q]; exact wrH rfl q
      · rw [if_neg q, wrM2 q, wrM1 (by omega), ho _ (by omega) (by omega)]
    have eb : bd I3 (x + 1 + 2) = (I (x + 1 + 2), I (x + 1 + 2 + 1), I3 (x + 1 + 2 + 2), I3 (x + 1 + 2 + 3), I (x + 1 + 2 + 4), (bd I (x + 1 + 2)).2.2.2.2.2) := by
      simp (disch := omega) only [bd, e3, ho]
    have er : I (x + 1 + 2 + 2) c = I (x + 271 + 1) (6 + 4 * c + 1 + 0) := e1.2.1.symm
    rw [er]
    refine ch_fin hK h hc (by decide) (hC.fr fun q r1 r2 => e3 q (by omega) (by omega)) (fun q hq => by rw [e3 q (by omega) (by omega), hs2 q (by omega)]) (Or.inl ⟨rfl, q5, q6⟩) eb ?_ (fun k hk ek => ⟨by rw [e32, if_neg ek]; rfl, by rw [e33, if_neg ek]; rfl, rfl⟩) (by rw [e32, if_pos rfl, if_pos rfl]) (by rw [if_neg (by decide)]; rfl) (by rw [e33, if_pos rfl, if_pos rfl]; rfl)
    rw [eb]
    refine VL.rlw (S := bd I (x + 1 + 2)) h.1.1 (fun k hk => ?_) (fun k hk => ?_)
    · rw [e32]
      have := hv1 k hk
      split
      · rw [Int32.le_iff_toInt_le, nIi (by decide)] at q5 q6
        exact ⟨q5, by omega, this.2.2⟩
      · exact this
    · rw [e32, e33]
      split
      · split
        · exact Int32.le_refl _
        · rename_i q; exact Int32.not_lt.mp q
      · exact h.1.1.2 k hk
  · simp (disch := omega) only [vpT, nI_leI, nI_ltI, nI_eq, nleT, nleF, nltT, nltF, neqT, neqF, nI_add, pk_mul, subN, divN, nI_clamp, mI1, wrH, wrM1, wrM2, wrowH, wrowM, bI0, bI1, kIi, kVi, kRi, kLi, kIx, kVx, Option.some.injEq, exists_eq_left', true_and, and_true, true_implies, false_implies, implies_true, not_true_eq_false, not_false_eq_true, true_or, or_true, false_or, or_false, forall_eq, iteT, iteF, LK_ hK, LM_ hK.m, LB_ hK.b]
    refine sp_checkArgument (fun q => Or.inr ⟨rfl, (by unfold NE9; decide), bad (Or.inr (Or.inl ⟨rfl, q⟩))⟩) (fun q5 q6 => t108_77 ?_)
    simp (disch := omega) only [vpT, nI_leI, nI_ltI, nI_eq, nleT, nleF, nltT, nltF, neqT, neqF, nI_add, pk_mul, subN, divN, nI_clamp, mI1, wrH, wrM1, wrM2, wrowH, wrowM, bI0, bI1, kIi, kVi, kRi, kLi, kIx, kVx, Option.some.injEq, exists_eq_left', true_and, and_true, true_implies, false_implies, implies_true, not_true_eq_false, not_false_eq_true, true_or, or_true, false_or, or_false, forall_eq, iteT, iteF, LK_ hK, LM_ hK.m, LB_ hK.b]
    refine sp_cell (N := 10) hK h hB.2.2.1.2.2.1 hB.2.2.2.2.2.1 (by omega) (by decide) (by omega) (by omega) fun I2 fi' s hC hs2 => t108_88 ?_
    have ho : ∀ a, x + 3 ≤ a → a ≤ x + 15 → I2 a = I a := fun a r1 r2 => hs2 a (by omega)
    simp (disch := omega) only [vpT, nI_leI, nI_ltI, nI_eq, nleT, nleF, nltT, nltF, neqT, neqF, nI_add, pk_mul, subN, divN, nI_clamp, mI1, wrH, wrM1, wrM2, wrowH, wrowM, bI0, bI1, kIi, kVi, kRi, kLi, kIx, kVx, Option.some.injEq, exists_eq_left', true_and, and_true, true_implies, false_implies, implies_true, not_true_eq_false, not_false_eq_true, true_or, or_true, false_or, or_false, forall_eq, iteT, iteF, LK_ hK, LM_ hK.m, LB_ hK.b]
    generalize hI3 : wr I2 (x + 1 + 2 + 3) c p3 = I3
    have e3 : ∀ q, q ≠ x + 1 + 2 + 3 → I3 q = I2 q := fun q hq => by rw [← hI3, wrM1 hq]
    have e33 : ∀ j, I3 (x + 1 + 2 + 3) j = if j = c then p3 else I (x + 1 + 2 + 3) j := fun j => by
      rw [← hI3]
      split <;> rename_i q
      · exact wrH rfl q
      · rw [wrM2 q, ho _ (by omega) (by omega)]
    have eb : bd I3 (x + 1 + 2) = (I (x + 1 + 2), I (x + 1 + 2 + 1), I (x + 1 + 2 + 2), I3 (x + 1 + 2 + 3), I (x + 1 + 2 + 4), (bd I (x + 1 + 2)).2.2.2.2.2) := by
      simp (disch := omega) only [bd, e3, ho]
    have er : I (x + 1 + 2 + 3) c = I (x + 271 + 1) (6 + 4 * c + 1 + 1) := e1.2.2.1.symm
    rw [er]
    refine ch_fin hK h hc (by decide) (hC.fr fun q r1 r2 => e3 q (by omega)) (fun q hq => by rw [e3 q (by omega), hs2 q (by omega)]) (Or.inr (Or.inl ⟨rfl, q5, q6⟩)) eb ?_ (fun k hk ek => ⟨rfl, by rw [e33, if_neg ek]; rfl, rfl⟩) (by rw [if_neg (by decide)]; rfl) (by rw [if_neg (by decide)]; rfl) (by rw [e33, if_pos rfl, if_neg (by decide), if_pos rfl])
    rw [eb]
    refine VL.rlw (S := bd I (x + 1 + 2)) h.1.1 hv1 (fun k hk => ?_)
    rw [e33]
    split <;> rename_i q
    · rw [q]; exact q5
    · exact h.1.1.2 k hk
  · simp (disch := omega) only [vpT, nI_leI, nI_ltI, nI_eq, nleT, nleF, nltT, nltF, neqT, neqF, nI_add, pk_mul, subN, divN, nI_clamp, mI1, wrH, wrM1, wrM2, wrowH, wrowM, bI0, bI1, kIi, kVi, kRi, kLi, kIx, kVx, Option.some.injEq, exists_eq_left', true_and, and_true, true_implies, false_implies, implies_true, not_true_eq_false, not_false_eq_true, true_or, or_true, false_or, or_false, forall_eq, iteT, iteF, LK_ hK, LM_ hK.m, LB_ hK.b]
    refine sp_checkArgument (fun q => Or.inr ⟨rfl, (by unfold NE9; decide), bad (Or.inr (Or.inr ⟨rfl, q⟩))⟩) (fun q5 q6 => t108_96 ?_)
    simp (disch := omega) only [vpT, nI_leI, nI_ltI, nI_eq, nleT, nleF, nltT, nltF, neqT, neqF, nI_add, pk_mul, subN, divN, nI_clamp, mI1, wrH, wrM1, wrM2, wrowH, wrowM, bI0, bI1, kIi, kVi, kRi, kLi, kIx, kVx, Option.some.injEq, exists_eq_left', true_and, and_true, true_implies, false_implies, implies_true, not_true_eq_false, not_false_eq_true, true_or, or_true, false_or, or_false, forall_eq, iteT, iteF, LK_ hK, LM_ hK.m, LB_ hK.b]
    refine sp_cell (N := 10) hK h hB.2.2.1.2.2.2.1 hB.2.2.2.2.2.2.1 (by omega) (by decide) (by omega) (by omega) fun I2 fi' s hC hs2 => t108_107 ?_
    have ho : ∀ a, x + 3 ≤ a → a ≤ x + 15 → I2 a = I a := fun a r1 r2 => hs2 a (by omega)
    simp (disch := omega) only [vpT, nI_leI, nI_ltI, nI_eq, nleT, nleF, nltT, nltF, neqT, neqF, nI_add, pk_mul, subN, divN, nI_clamp, mI1, wrH, wrM1, wrM2, wrowH, wrowM, bI0, bI1, kIi, kVi, kRi, kLi, kIx, kVx, Option.some.injEq, exists_eq_left', true_and, and_true, true_implies, false_implies, implies_true, not_true_eq_false, not_false_eq_true, true_or, or_true, false_or, or_false, forall_eq, iteT, iteF, LK_ hK, LM_ hK.m, LB_ hK.b]
    generalize hI3 : wr I2 (x + 1 + 2 + 4) c p3 = I3
    have e3 : ∀ q, q ≠ x + 1 + 2 + 4 → I3 q = I2 q := fun q hq => by rw [← hI3, wrM1 hq]
    have e34 : ∀ j, I3 (x + 1 + 2 + 4) j = if j = c then p3 else I (x + 1 + 2 + 4) j := fun j => by
      rw [← hI3]
      split <;> rename_i q
      · exact wrH rfl q
      · rw [wrM2 q, ho _ (by omega) (by omega)]
    have eb : bd I3 (x + 1 + 2) = (I (x + 1 + 2), I (x + 1 + 2 + 1), I (x + 1 + 2 + 2), I (x + 1 + 2 + 3), I3 (x + 1 + 2 + 4), (bd I (x + 1 + 2)).2.2.2.2.2) := by
      simp (disch := omega) only [bd, e3, ho]
    have er : I (x + 1 + 2 + 4) c = I (x + 271 + 1) (6 + 4 * c + 1 + 2) := e1.2.2.2.1.symm
    rw [er]
    refine ch_fin hK h hc (by decide) (hC.fr fun q r1 r2 => e3 q (by omega)) (fun q hq => by rw [e3 q (by omega), hs2 q (by omega)]) (Or.inr (Or.inr ⟨rfl, q5, q6⟩)) eb ?_ (fun k hk ek => ⟨rfl, rfl, by rw [e34, if_neg ek]; rfl⟩) (by rw [if_neg (by decide)]; rfl) (by rw [e34, if_pos rfl, if_pos rfl]) (by rw [if_neg (by decide), if_neg (by decide)]; rfl)
    rw [eb]
    refine VL.rlw (S := bd I (x + 1 + 2)) h.1.1 (fun k hk => ?_) h.1.1.2
    rw [e34]
    have := hv1 k hk
    split
    · rw [Int32.le_iff_toInt_le, nIi (by decide)] at q5 q6
      exact ⟨this.1, this.2.1, q5, q6⟩
    · exact this
end CALLS4
