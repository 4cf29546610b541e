/-! The law's calls: counts, craft. -/
section CALLS11
variable {I0 I I2 I3 I5 : Nat → Nat → Int32} {J J2 : Nat → Nat → Int64} {L : hL} {x n sn dn ac fi tp sd c : Nat} {t : tl} {F : Int32 → hp → Prop} {G : hp → Prop} {N : Nat → hp → Prop} {X : Nat → hp → Prop} {d e z l : Nat} {ex : Bool} {S : BS}
theorem cv0 {a : Nat} : crv S n dn c a 0 = bSo S c := by unfold crv; rw [if_pos rfl]
theorem cv1 {a : Nat} : crv S n dn c a 1 = bRe S c := by unfold crv; rw [if_neg (show ¬ (1 = 0) by decide), if_pos rfl]
theorem cv2 {a : Nat} : crv S n dn c a 2 = bLa S c := by unfold crv; rw [if_neg (show ¬ (2 = 0) by decide), if_neg (show ¬ (2 = 1) by decide), if_pos rfl]
theorem cv3 {a : Nat} : crv S n dn c a 3 = bWe S c := by unfold crv; rw [if_neg (show ¬ (3 = 0) by decide), if_neg (show ¬ (3 = 1) by decide), if_neg (show ¬ (3 = 2) by decide), if_pos rfl]
theorem cv4 {a : Nat} : crv S n dn c a 4 = nI (rk S n c) := by unfold crv; rw [if_neg (show ¬ (4 = 0) by decide), if_neg (show ¬ (4 = 1) by decide), if_neg (show ¬ (4 = 2) by decide), if_neg (show ¬ (4 = 3) by decide), if_pos rfl]
theorem cv5 {a : Nat} : crv S n dn c a 5 = nI a := by unfold crv; rw [if_neg (show ¬ (5 = 0) by decide), if_neg (show ¬ (5 = 1) by decide), if_neg (show ¬ (5 = 2) by decide), if_neg (show ¬ (5 = 3) by decide), if_neg (show ¬ (5 = 4) by decide), if_pos rfl]
theorem cv6 {a : Nat} : crv S n dn c a 6 = slt S (ordN S) a := by unfold crv; rw [if_neg (show ¬ (6 = 0) by decide), if_neg (show ¬ (6 = 1) by decide), if_neg (show ¬ (6 = 2) by decide), if_neg (show ¬ (6 = 3) by decide), if_neg (show ¬ (6 = 4) by decide), if_neg (show ¬ (6 = 5) by decide), if_pos rfl]
theorem cv7 {a : Nat} : crv S n dn c a 7 = slt S (ordN S) a - bRe S c := by unfold crv; rw [if_neg (show ¬ (7 = 0) by decide), if_neg (show ¬ (7 = 1) by decide), if_neg (show ¬ (7 = 2) by decide), if_neg (show ¬ (7 = 3) by decide), if_neg (show ¬ (7 = 4) by decide), if_neg (show ¬ (7 = 5) by decide), if_neg (show ¬ (7 = 6) by decide), if_pos rfl]
theorem cv8 {a : Nat} : crv S n dn c a 8 = nI a - nI (rk S n c) := by unfold crv; rw [if_neg (show ¬ (8 = 0) by decide), if_neg (show ¬ (8 = 1) by decide), if_neg (show ¬ (8 = 2) by decide), if_neg (show ¬ (8 = 3) by decide), if_neg (show ¬ (8 = 4) by decide), if_neg (show ¬ (8 = 5) by decide), if_neg (show ¬ (8 = 6) by decide), if_neg (show ¬ (8 = 7) by decide), if_pos rfl]
theorem cv9 {a : Nat} : crv S n dn c a 9 = (if a < frz S n then nI 1 else nI 0) := by unfold crv; rw [if_neg (show ¬ (9 = 0) by decide), if_neg (show ¬ (9 = 1) by decide), if_neg (show ¬ (9 = 2) by decide), if_neg (show ¬ (9 = 3) by decide), if_neg (show ¬ (9 = 4) by decide), if_neg (show ¬ (9 = 5) by decide), if_neg (show ¬ (9 = 6) by decide), if_neg (show ¬ (9 = 7) by decide), if_neg (show ¬ (9 = 8) by decide), if_pos rfl]
theorem cv10 {a : Nat} : crv S n dn c a 10 = mx (nI 0) (slt S (ordN S) a - bLa S c) := by unfold crv; rw [if_neg (show ¬ (10 = 0) by decide), if_neg (show ¬ (10 = 1) by decide), if_neg (show ¬ (10 = 2) by decide), if_neg (show ¬ (10 = 3) by decide), if_neg (show ¬ (10 = 4) by decide), if_neg (show ¬ (10 = 5) by decide), if_neg (show ¬ (10 = 6) by decide), if_neg (show ¬ (10 = 7) by decide), if_neg (show ¬ (10 = 8) by decide), if_neg (show ¬ (10 = 9) by decide), if_pos rfl]
theorem cv11 {a : Nat} : crv S n dn c a 11 = bHu S c := by unfold crv; rw [if_neg (show ¬ (11 = 0) by decide), if_neg (show ¬ (11 = 1) by decide), if_neg (show ¬ (11 = 2) by decide), if_neg (show ¬ (11 = 3) by decide), if_neg (show ¬ (11 = 4) by decide), if_neg (show ¬ (11 = 5) by decide), if_neg (show ¬ (11 = 6) by decide), if_neg (show ¬ (11 = 7) by decide), if_neg (show ¬ (11 = 8) by decide), if_neg (show ¬ (11 = 9) by decide), if_neg (show ¬ (11 = 10) by decide), if_pos rfl]
theorem cv12 {a : Nat} : crv S n dn c a 12 = hby S (ordN S) dn a := by unfold crv; rw [if_neg (show ¬ (12 = 0) by decide), if_neg (show ¬ (12 = 1) by decide), if_neg (show ¬ (12 = 2) by decide), if_neg (show ¬ (12 = 3) by decide), if_neg (show ¬ (12 = 4) by decide), if_neg (show ¬ (12 = 5) by decide), if_neg (show ¬ (12 = 6) by decide), if_neg (show ¬ (12 = 7) by decide), if_neg (show ¬ (12 = 8) by decide), if_neg (show ¬ (12 = 9) by decide), if_neg (show ¬ (12 = 10) by decide), if_neg (show ¬ (12 = 11) by decide), if_pos rfl]
theorem cv13 {a : Nat} : crv S n dn c a 13 = slkM (fun e => hold (setRe S c (slt S (ordN S) a + nI e)) (ordN S) n) 99 := by unfold crv; rw [if_neg (show ¬ (13 = 0) by decide), if_neg (show ¬ (13 = 1) by decide), if_neg (show ¬ (13 = 2) by decide), if_neg (show ¬ (13 = 3) by decide), if_neg (show ¬ (13 = 4) by decide), if_neg (show ¬ (13 = 5) by decide), if_neg (show ¬ (13 = 6) by decide), if_neg (show ¬ (13 = 7) by decide), if_neg (show ¬ (13 = 8) by decide), if_neg (show ¬ (13 = 9) by decide), if_neg (show ¬ (13 = 10) by decide), if_neg (show ¬ (13 = 11) by decide), if_neg (show ¬ (13 = 12) by decide)]
theorem co0 : cov S n sn dn ac tp 0 = nI n := by unfold cov; rw [if_pos rfl]
theorem co1 : cov S n sn dn ac tp 1 = bF S 13 := by unfold cov; rw [if_neg (show ¬ (1 = 0) by decide), if_pos rfl]
theorem co2 : cov S n sn dn ac tp 2 = bF S 11 := by unfold cov; rw [if_neg (show ¬ (2 = 0) by decide), if_neg (show ¬ (2 = 1) by decide), if_pos rfl]
theorem co3 : cov S n sn dn ac tp 3 = bF S 12 := by unfold cov; rw [if_neg (show ¬ (3 = 0) by decide), if_neg (show ¬ (3 = 1) by decide), if_neg (show ¬ (3 = 2) by decide), if_pos rfl]
theorem co4 : cov S n sn dn ac tp 4 = nI (frz S n) := by unfold cov; rw [if_neg (show ¬ (4 = 0) by decide), if_neg (show ¬ (4 = 1) by decide), if_neg (show ¬ (4 = 2) by decide), if_neg (show ¬ (4 = 3) by decide), if_pos rfl]
theorem co5 : cov S n sn dn ac tp 5 = nI dn := by unfold cov; rw [if_neg (show ¬ (5 = 0) by decide), if_neg (show ¬ (5 = 1) by decide), if_neg (show ¬ (5 = 2) by decide), if_neg (show ¬ (5 = 3) by decide), if_neg (show ¬ (5 = 4) by decide), if_pos rfl]
theorem co6 : cov S n sn dn ac tp 6 = nI sn := by unfold cov; rw [if_neg (show ¬ (6 = 0) by decide), if_neg (show ¬ (6 = 1) by decide), if_neg (show ¬ (6 = 2) by decide), if_neg (show ¬ (6 = 3) by decide), if_neg (show ¬ (6 = 4) by decide), if_neg (show ¬ (6 = 5) by decide), if_pos rfl]
theorem co7 : cov S n sn dn ac tp 7 = nI ac := by unfold cov; rw [if_neg (show ¬ (7 = 0) by decide), if_neg (show ¬ (7 = 1) by decide), if_neg (show ¬ (7 = 2) by decide), if_neg (show ¬ (7 = 3) by decide), if_neg (show ¬ (7 = 4) by decide), if_neg (show ¬ (7 = 5) by decide), if_neg (show ¬ (7 = 6) by decide), if_pos rfl]
theorem co8 : cov S n sn dn ac tp 8 = nI tp := by unfold cov; rw [if_neg (show ¬ (8 = 0) by decide), if_neg (show ¬ (8 = 1) by decide), if_neg (show ¬ (8 = 2) by decide), if_neg (show ¬ (8 = 3) by decide), if_neg (show ¬ (8 = 4) by decide), if_neg (show ¬ (8 = 5) by decide), if_neg (show ¬ (8 = 6) by decide), if_neg (show ¬ (8 = 7) by decide), if_pos rfl]
theorem co9 : cov S n sn dn ac tp 9 = bI (hold S (ordN S) n) := by unfold cov; rw [if_neg (show ¬ (9 = 0) by decide), if_neg (show ¬ (9 = 1) by decide), if_neg (show ¬ (9 = 2) by decide), if_neg (show ¬ (9 = 3) by decide), if_neg (show ¬ (9 = 4) by decide), if_neg (show ¬ (9 = 5) by decide), if_neg (show ¬ (9 = 6) by decide), if_neg (show ¬ (9 = 7) by decide), if_neg (show ¬ (9 = 8) by decide), if_pos rfl]
theorem co10 : cov S n sn dn ac tp 10 = bI (alw S n (frz S n) (ordN S)) := by unfold cov; rw [if_neg (show ¬ (10 = 0) by decide), if_neg (show ¬ (10 = 1) by decide), if_neg (show ¬ (10 = 2) by decide), if_neg (show ¬ (10 = 3) by decide), if_neg (show ¬ (10 = 4) by decide), if_neg (show ¬ (10 = 5) by decide), if_neg (show ¬ (10 = 6) by decide), if_neg (show ¬ (10 = 7) by decide), if_neg (show ¬ (10 = 8) by decide), if_neg (show ¬ (10 = 9) by decide), if_pos rfl]
theorem co11 : cov S n sn dn ac tp 11 = cst S (ordN S) (nI 0) n := by unfold cov; rw [if_neg (show ¬ (11 = 0) by decide), if_neg (show ¬ (11 = 1) by decide), if_neg (show ¬ (11 = 2) by decide), if_neg (show ¬ (11 = 3) by decide), if_neg (show ¬ (11 = 4) by decide), if_neg (show ¬ (11 = 5) by decide), if_neg (show ¬ (11 = 6) by decide), if_neg (show ¬ (11 = 7) by decide), if_neg (show ¬ (11 = 8) by decide), if_neg (show ¬ (11 = 9) by decide), if_neg (show ¬ (11 = 10) by decide), if_pos rfl]
theorem co12 : cov S n sn dn ac tp 12 = cst S (ordN S) (nI 1) n := by unfold cov; rw [if_neg (show ¬ (12 = 0) by decide), if_neg (show ¬ (12 = 1) by decide), if_neg (show ¬ (12 = 2) by decide), if_neg (show ¬ (12 = 3) by decide), if_neg (show ¬ (12 = 4) by decide), if_neg (show ¬ (12 = 5) by decide), if_neg (show ¬ (12 = 6) by decide), if_neg (show ¬ (12 = 7) by decide), if_neg (show ¬ (12 = 8) by decide), if_neg (show ¬ (12 = 9) by decide), if_neg (show ¬ (12 = 10) by decide), if_neg (show ¬ (12 = 11) by decide), if_pos rfl]
theorem co13 : cov S n sn dn ac tp 13 = cst S (ordN S) (nI 2) n := by unfold cov; rw [if_neg (show ¬ (13 = 0) by decide), if_neg (show ¬ (13 = 1) by decide), if_neg (show ¬ (13 = 2) by decide), if_neg (show ¬ (13 = 3) by decide), if_neg (show ¬ (13 = 4) by decide), if_neg (show ¬ (13 = 5) by decide), if_neg (show ¬ (13 = 6) by decide), if_neg (show ¬ (13 = 7) by decide), if_neg (show ¬ (13 = 8) by decide), if_neg (show ¬ (13 = 9) by decide), if_neg (show ¬ (13 = 10) by decide), if_neg (show ¬ (13 = 11) by decide), if_neg (show ¬ (13 = 12) by decide), if_pos rfl]
theorem co14 : cov S n sn dn ac tp 14 = nI (cntB (crk S) 512) := by unfold cov; rw [if_neg (show ¬ (14 = 0) by decide), if_neg (show ¬ (14 = 1) by decide), if_neg (show ¬ (14 = 2) by decide), if_neg (show ¬ (14 = 3) by decide), if_neg (show ¬ (14 = 4) by decide), if_neg (show ¬ (14 = 5) by decide), if_neg (show ¬ (14 = 6) by decide), if_neg (show ¬ (14 = 7) by decide), if_neg (show ¬ (14 = 8) by decide), if_neg (show ¬ (14 = 9) by decide), if_neg (show ¬ (14 = 10) by decide), if_neg (show ¬ (14 = 11) by decide), if_neg (show ¬ (14 = 12) by decide), if_neg (show ¬ (14 = 13) by decide), if_pos rfl]
theorem co15 : cov S n sn dn ac tp 15 = fst1 (crk S) 512 0 := by unfold cov; rw [if_neg (show ¬ (15 = 0) by decide), if_neg (show ¬ (15 = 1) by decide), if_neg (show ¬ (15 = 2) by decide), if_neg (show ¬ (15 = 3) by decide), if_neg (show ¬ (15 = 4) by decide), if_neg (show ¬ (15 = 5) by decide), if_neg (show ¬ (15 = 6) by decide), if_neg (show ¬ (15 = 7) by decide), if_neg (show ¬ (15 = 8) by decide), if_neg (show ¬ (15 = 9) by decide), if_neg (show ¬ (15 = 10) by decide), if_neg (show ¬ (15 = 11) by decide), if_neg (show ¬ (15 = 12) by decide), if_neg (show ¬ (15 = 13) by decide), if_neg (show ¬ (15 = 14) by decide), if_pos rfl]
theorem co16 : cov S n sn dn ac tp 16 = nI (trn S (ordN S) n) := by unfold cov; rw [if_neg (show ¬ (16 = 0) by decide), if_neg (show ¬ (16 = 1) by decide), if_neg (show ¬ (16 = 2) by decide), if_neg (show ¬ (16 = 3) by decide), if_neg (show ¬ (16 = 4) by decide), if_neg (show ¬ (16 = 5) by decide), if_neg (show ¬ (16 = 6) by decide), if_neg (show ¬ (16 = 7) by decide), if_neg (show ¬ (16 = 8) by decide), if_neg (show ¬ (16 = 9) by decide), if_neg (show ¬ (16 = 10) by decide), if_neg (show ¬ (16 = 11) by decide), if_neg (show ¬ (16 = 12) by decide), if_neg (show ¬ (16 = 13) by decide), if_neg (show ¬ (16 = 14) by decide), if_neg (show ¬ (16 = 15) by decide)]
--facts LK_ hK, LM_ hK.m, LB_ hK.b
theorem mo_craft {a w : Nat} (hK : LK L x) (h : SX I0 I x n sn dn ac fi tp sd) (hs : same I I2 (scr x)) (hm : I2 (x + 271) = I (x + 271)) (hV : VB S n sn dn 1999) (hR : Rel (I (x + 271 + 1)) S n sn dn) (ha : a < n) (hac : ordN S a = c) (hc : c < n) (hw : w < 14) : MD I0 L x 212 e [.int (nI c), .int (nI w)] (fun r2 => r2 = crv S n dn c a w) 0 t (L, I2, J, t) := by
  have hn := h.n10
  have hol := BI_or hV.1
  have r2 : I2 (x + 271 + 1) = I (x + 271 + 1) := hs _ (by omega)
  have hfz := frz_le (S := S) (n := n)
  refine ⟨I2, J, rfl, (by first | exact h.2.2.2.2 | exact fun a ha => (em a (Or.inr ha)).trans (h.2.2.2.2 a ha) | exact fun a ha => (em2 a (Or.inr ha)).trans (h.2.2.2.2 a ha) | exact fun a ha => (hs a (by omega)).trans (h.2.2.2.2 a ha) | exact fun a ha => (wrM1 (by omega)).trans ((em a (Or.inr ha)).trans (h.2.2.2.2 a ha)) | exact fun a ha => (e3 a (by omega)).trans ((em a (Or.inr ha)).trans (h.2.2.2.2 a ha)) | exact fun a ha => (cs a (by omega) (by omega)).trans (h.2.2.2.2 a ha) | exact fun a ha => (hs2 a (by omega)).trans (h.2.2.2.2 a ha) | exact fun a ha => (e3 a (by omega) (by omega)).trans (h.2.2.2.2 a ha) | exact fun a ha => (e3 a (by omega) (by omega) (by omega) (by omega)).trans (h.2.2.2.2 a ha) | exact fun a ha => (hs5 a (by omega)).trans ((hs4' a (by omega)).trans ((hs3' a (by omega)).trans ((hs2 a (by omega)).trans (h.2.2.2.2 a ha)))) | (intro a ha; (try rw [wrM1 (by omega)]); (try rw [hs6 a (by omega)]); (try rw [hs5 a (by omega)]); (try rw [e5 a (by omega)]); (try rw [hs4 a (by omega)]); (try rw [e4 a (by omega)]); (try rw [hs3 a (by omega)]); (try rw [e3 a (by omega)]); (try rw [wrM1 (by omega)]); (try rw [hs2 a (by omega)]); (try rw [e2 a (by omega)]); (try rw [em2 a (Or.inr ha)]); (try rw [cs a (by omega) (by omega)]); (try rw [hs1 a (by omega)]); (try rw [hs a (by omega)]); (try rw [em a (Or.inr ha)]); exact h.2.2.2.2 a ha)), fun J2 => e212 (t212_0 ?_)⟩
  simp (disch := omega) only [vpT, nI_leI, nI_ltI, nI_eq, nleT, nleF, nltT, nltF, neqT, neqF, nI_add, pk_mul, subN, divN, nI_clamp, mI1, wrH, wrM1, wrM2, wrowH, wrowM, bI0, bI1, kIi, kVi, kRi, kLi, kIx, kVx, Option.some.injEq, exists_eq_left', true_and, and_true, true_implies, false_implies, implies_true, not_true_eq_false, not_false_eq_true, true_or, or_true, false_or, or_false, forall_eq, iteT, iteF, LK_ hK, LM_ hK.m, LB_ hK.b]
  refine mp_isCraftT hK.m (by rw [wrM1 (by omega), r2]; exact h.m0) hn ⟨nI_leI (by decide) (by omega) |>.mpr (by omega), nI_ltI (by omega) (by omega) |>.mpr hc⟩ (t212_11 ?_)
  simp (disch := omega) only [vpT, nI_leI, nI_ltI, nI_eq, nleT, nleF, nltT, nltF, neqT, neqF, nI_add, pk_mul, subN, divN, nI_clamp, mI1, wrH, wrM1, wrM2, wrowH, wrowM, bI0, bI1, kIi, kVi, kRi, kLi, kIx, kVx, Option.some.injEq, exists_eq_left', true_and, and_true, true_implies, false_implies, implies_true, not_true_eq_false, not_false_eq_true, true_or, or_true, false_or, or_false, forall_eq, iteT, iteF, LK_ hK, LM_ hK.m, LB_ hK.b]
  refine mp_inT (lo := nI 0) (hi := nI 13) rfl rfl ⟨nI_leI (by decide) (by omega) |>.mpr (by omega), nI_leI (by omega) (by omega) |>.mpr (by omega)⟩ (t212_23 ?_)
  simp (disch := omega) only [vpT, nI_leI, nI_ltI, nI_eq, nleT, nleF, nltT, nltF, neqT, neqF, nI_add, pk_mul, subN, divN, nI_clamp, mI1, wrH, wrM1, wrM2, wrowH, wrowM, bI0, bI1, kIi, kVi, kRi, kLi, kIx, kVx, Option.some.injEq, exists_eq_left', true_and, and_true, true_implies, false_implies, implies_true, not_true_eq_false, not_false_eq_true, true_or, or_true, false_or, or_false, forall_eq, iteT, iteF, LK_ hK, LM_ hK.m, LB_ hK.b]
  refine mp_rightT hK.m (wrH rfl rfl) (t212_35 ?_)
  have hR1 : Rel (wr I2 (x + 271) 0 (nI 0) (x + 271 + 1)) S n sn dn := by rw [wrM1 (by omega), r2]; exact hR
  have rc := hR1.2.1 c hc
  by_cases w4 : w < 4
  · simp (disch := omega) only [vpT, nI_leI, nI_ltI, nI_eq, nleT, nleF, nltT, nltF, neqT, neqF, nI_add, pk_mul, subN, divN, nI_clamp, mI1, wrH, wrM1, wrM2, wrowH, wrowM, bI0, bI1, kIi, kVi, kRi, kLi, kIx, kVx, Option.some.injEq, exists_eq_left', true_and, and_true, true_implies, false_implies, implies_true, not_true_eq_false, not_false_eq_true, true_or, or_true, false_or, or_false, forall_eq, iteT, iteF, LK_ hK, LM_ hK.m, LB_ hK.b]
    refine mp_ofCraft hK.m (show c < 10 by omega) w4 (t212_56 (t212_64 ?_))
    have : w = 0 ∨ w = 1 ∨ w = 2 ∨ w = 3 := by omega
    rcases this with rfl | rfl | rfl | rfl
    · exact ⟨rc.1.trans cv0.symm, f1 h hs hm⟩
    · exact ⟨rc.2.1.trans cv1.symm, f1 h hs hm⟩
    · exact ⟨rc.2.2.1.trans cv2.symm, f1 h hs hm⟩
    · exact ⟨rc.2.2.2.1.trans cv3.symm, f1 h hs hm⟩
  by_cases w5 : w = 4
  · subst w5
    simp (disch := omega) only [vpT, nI_leI, nI_ltI, nI_eq, nleT, nleF, nltT, nltF, neqT, neqF, nI_add, pk_mul, subN, divN, nI_clamp, mI1, wrH, wrM1, wrM2, wrowH, wrowM, bI0, bI1, kIi, kVi, kRi, kLi, kIx, kVx, Option.some.injEq, exists_eq_left', true_and, and_true, true_implies, false_implies, implies_true, not_true_eq_false, not_false_eq_true, true_or, or_true, false_or, or_false, forall_eq, iteT, iteF, LK_ hK, LM_ hK.m, LB_ hK.b]
    refine mp_rankOf (S := S) (n := n) (sn := sn) (dn := dn) (T := 1999) hK.m hR1 hV.1 hV.2.2.1 hc (t212_64 ?_)
    exact ⟨cv4.symm, f1 h hs hm⟩
  simp (disch := omega) only [vpT, nI_leI, nI_ltI, nI_eq, nleT, nleF, nltT, nltF, neqT, neqF, nI_add, pk_mul, subN, divN, nI_clamp, mI1, wrH, wrM1, wrM2, wrowH, wrowM, bI0, bI1, kIi, kVi, kRi, kLi, kIx, kVx, Option.some.injEq, exists_eq_left', true_and, and_true, true_implies, false_implies, implies_true, not_true_eq_false, not_false_eq_true, true_or, or_true, false_or, or_false, forall_eq, iteT, iteF, LK_ hK, LM_ hK.m, LB_ hK.b]
  refine mp_frozenNow (S := S) (n := n) (sn := sn) (dn := dn) hK.m hR1 hV.1 hol fun I3 hs3 hL3 => t212_69 ?_
  have hR3 : Rel (I3 (x + 271 + 1)) S n sn dn := by rw [hs3 _ (by omega)]; exact hR1
  have e7 : I3 (x + 271 + 7) a = slt S (ordN S) a := hL3.2 a ha
  have fin : FN I0 L x 0 J2 t (L, I3, J2, t) := f2 h hs hm (hs3.up fun a ha => by omega) (by rw [hs3 _ (by omega), wrM1 (by omega)]) (by rw [hs3 _ (by omega), wrM1 (by omega)]) (fun j hj => by rw [hs3 _ (by omega)])
  simp (disch := omega) only [vpT, nI_leI, nI_ltI, nI_eq, nleT, nleF, nltT, nltF, neqT, neqF, nI_add, pk_mul, subN, divN, nI_clamp, mI1, wrH, wrM1, wrM2, wrowH, wrowM, bI0, bI1, kIi, kVi, kRi, kLi, kIx, kVx, Option.some.injEq, exists_eq_left', true_and, and_true, true_implies, false_implies, implies_true, not_true_eq_false, not_false_eq_true, true_or, or_true, false_or, or_false, forall_eq, iteT, iteF, LK_ hK, LM_ hK.m, LB_ hK.b]
  refine mp_placeOf (S := S) (n := n) (sn := sn) (dn := dn) hK.m hR3 hV.1 hV.2.1 hol ha hac (t212_75 ?_)
  have : w = 5 ∨ w = 6 ∨ w = 7 ∨ w = 8 ∨ w = 9 ∨ w = 10 ∨ w = 11 ∨ w = 12 ∨ w = 13 := by omega
  rcases this with rfl | rfl | rfl | rfl | rfl | rfl | rfl | rfl | rfl
  · simp (disch := omega) only [vpT, nI_leI, nI_ltI, nI_eq, nleT, nleF, nltT, nltF, neqT, neqF, nI_add, pk_mul, subN, divN, nI_clamp, mI1, wrH, wrM1, wrM2, wrowH, wrowM, bI0, bI1, kIi, kVi, kRi, kLi, kIx, kVx, Option.some.injEq, exists_eq_left', true_and, and_true, true_implies, false_implies, implies_true, not_true_eq_false, not_false_eq_true, true_or, or_true, false_or, or_false, forall_eq, iteT, iteF, LK_ hK, LM_ hK.m, LB_ hK.b]
    exact ⟨cv5.symm, fin⟩
  · simp (disch := omega) only [vpT, nI_leI, nI_ltI, nI_eq, nleT, nleF, nltT, nltF, neqT, neqF, nI_add, pk_mul, subN, divN, nI_clamp, mI1, wrH, wrM1, wrM2, wrowH, wrowM, bI0, bI1, kIi, kVi, kRi, kLi, kIx, kVx, Option.some.injEq, exists_eq_left', true_and, and_true, true_implies, false_implies, implies_true, not_true_eq_false, not_false_eq_true, true_or, or_true, false_or, or_false, forall_eq, iteT, iteF, LK_ hK, LM_ hK.m, LB_ hK.b, e7]
    exact ⟨cv6.symm, fin⟩
  · simp (disch := omega) only [vpT, nI_leI, nI_ltI, nI_eq, nleT, nleF, nltT, nltF, neqT, neqF, nI_add, pk_mul, subN, divN, nI_clamp, mI1, wrH, wrM1, wrM2, wrowH, wrowM, bI0, bI1, kIi, kVi, kRi, kLi, kIx, kVx, Option.some.injEq, exists_eq_left', true_and, and_true, true_implies, false_implies, implies_true, not_true_eq_false, not_false_eq_true, true_or, or_true, false_or, or_false, forall_eq, iteT, iteF, LK_ hK, LM_ hK.m, LB_ hK.b]
    refine mp_waitAt (S := S) (n := n) (sn := sn) (dn := dn) (o := ordN S) hK.m hR3 hV.1 (fun j hj => (hol j hj).2) hL3 ha (t212_141 ?_)
    simp (disch := omega) only [vpT, nI_leI, nI_ltI, nI_eq, nleT, nleF, nltT, nltF, neqT, neqF, nI_add, pk_mul, subN, divN, nI_clamp, mI1, wrH, wrM1, wrM2, wrowH, wrowM, bI0, bI1, kIi, kVi, kRi, kLi, kIx, kVx, Option.some.injEq, exists_eq_left', true_and, and_true, true_implies, false_implies, implies_true, not_true_eq_false, not_false_eq_true, true_or, or_true, false_or, or_false, forall_eq, iteT, iteF, LK_ hK, LM_ hK.m, LB_ hK.b, hac]
    exact ⟨cv7.symm, fin⟩
  · simp (disch := omega) only [vpT, nI_leI, nI_ltI, nI_eq, nleT, nleF, nltT, nltF, neqT, neqF, nI_add, pk_mul, subN, divN, nI_clamp, mI1, wrH, wrM1, wrM2, wrowH, wrowM, bI0, bI1, kIi, kVi, kRi, kLi, kIx, kVx, Option.some.injEq, exists_eq_left', true_and, and_true, true_implies, false_implies, implies_true, not_true_eq_false, not_false_eq_true, true_or, or_true, false_or, or_false, forall_eq, iteT, iteF, LK_ hK, LM_ hK.m, LB_ hK.b]
    refine mp_rankOf (S := S) (n := n) (sn := sn) (dn := dn) (T := 1999) hK.m hR3 hV.1 hV.2.2.1 hc (t212_149 ?_)
    exact ⟨cv8.symm, fin⟩
  · by_cases q : a < frz S n
    · simp (disch := omega) only [vpT, nI_leI, nI_ltI, nI_eq, nleT, nleF, nltT, nltF, neqT, neqF, nI_add, pk_mul, subN, divN, nI_clamp, mI1, wrH, wrM1, wrM2, wrowH, wrowM, bI0, bI1, kIi, kVi, kRi, kLi, kIx, kVx, Option.some.injEq, exists_eq_left', true_and, and_true, true_implies, false_implies, implies_true, not_true_eq_false, not_false_eq_true, true_or, or_true, false_or, or_false, forall_eq, iteT, iteF, LK_ hK, LM_ hK.m, LB_ hK.b]
      exact ⟨by rw [cv9, if_pos q], fin⟩
    · simp (disch := omega) only [vpT, nI_leI, nI_ltI, nI_eq, nleT, nleF, nltT, nltF, neqT, neqF, nI_add, pk_mul, subN, divN, nI_clamp, mI1, wrH, wrM1, wrM2, wrowH, wrowM, bI0, bI1, kIi, kVi, kRi, kLi, kIx, kVx, Option.some.injEq, exists_eq_left', true_and, and_true, true_implies, false_implies, implies_true, not_true_eq_false, not_false_eq_true, true_or, or_true, false_or, or_false, forall_eq, iteT, iteF, LK_ hK, LM_ hK.m, LB_ hK.b]
      exact ⟨by rw [cv9, if_neg q], fin⟩
  · simp (disch := omega) only [vpT, nI_leI, nI_ltI, nI_eq, nleT, nleF, nltT, nltF, neqT, neqF, nI_add, pk_mul, subN, divN, nI_clamp, mI1, wrH, wrM1, wrM2, wrowH, wrowM, bI0, bI1, kIi, kVi, kRi, kLi, kIx, kVx, Option.some.injEq, exists_eq_left', true_and, and_true, true_implies, false_implies, implies_true, not_true_eq_false, not_false_eq_true, true_or, or_true, false_or, or_false, forall_eq, iteT, iteF, LK_ hK, LM_ hK.m, LB_ hK.b, e7]
    refine mp_ofCraft (w := 2) hK.m (show c < 10 by omega) (by decide) (t212_177 ?_)
    rw [(hR3.2.1 c hc).2.2.1]
    exact ⟨cv10.symm, fin⟩
  · simp (disch := omega) only [vpT, nI_leI, nI_ltI, nI_eq, nleT, nleF, nltT, nltF, neqT, neqF, nI_add, pk_mul, subN, divN, nI_clamp, mI1, wrH, wrM1, wrM2, wrowH, wrowM, bI0, bI1, kIi, kVi, kRi, kLi, kIx, kVx, Option.some.injEq, exists_eq_left', true_and, and_true, true_implies, false_implies, implies_true, not_true_eq_false, not_false_eq_true, true_or, or_true, false_or, or_false, forall_eq, iteT, iteF, LK_ hK, LM_ hK.m, LB_ hK.b]
    refine mp_isHurried (S := S) (n := n) (sn := sn) (dn := dn) hK.m hR3 hV.1 hc (t212_187 ?_)
    exact ⟨cv11.symm, fin⟩
  · simp (disch := omega) only [vpT, nI_leI, nI_ltI, nI_eq, nleT, nleF, nltT, nltF, neqT, neqF, nI_add, pk_mul, subN, divN, nI_clamp, mI1, wrH, wrM1, wrM2, wrowH, wrowM, bI0, bI1, kIi, kVi, kRi, kLi, kIx, kVx, Option.some.injEq, exists_eq_left', true_and, and_true, true_implies, false_implies, implies_true, not_true_eq_false, not_false_eq_true, true_or, or_true, false_or, or_false, forall_eq, iteT, iteF, LK_ hK, LM_ hK.m, LB_ hK.b]
    refine mp_heldBy (S := S) (n := n) (sn := sn) (dn := dn) (o := ordN S) hK.m hR3 hV.1 (fun j hj => (hol j hj).2) hL3 ha (t212_194 ?_)
    exact ⟨cv12.symm, fin⟩
  · simp (disch := omega) only [vpT, nI_leI, nI_ltI, nI_eq, nleT, nleF, nltT, nltF, neqT, neqF, nI_add, pk_mul, subN, divN, nI_clamp, mI1, wrH, wrM1, wrM2, wrowH, wrowM, bI0, bI1, kIi, kVi, kRi, kLi, kIx, kVx, Option.some.injEq, exists_eq_left', true_and, and_true, true_implies, false_implies, implies_true, not_true_eq_false, not_false_eq_true, true_or, or_true, false_or, or_false, forall_eq, iteT, iteF, LK_ hK, LM_ hK.m, LB_ hK.b]
    refine mp_slackOf (S := S) (n := n) (sn := sn) (dn := dn) (o := ordN S) hK.m hR3 hV.1 (fun j hj => (hol j hj).2) hL3 hc ha fun I4 hs4 h41 => t212_202 ?_
    refine ⟨cv13.symm, f2 h hs hm (fun b hb => by rw [hs4 b (by omega), hs3 b (by omega)]) (by rw [h41, hs3 _ (by omega), wrM1 (by omega)]) (by rw [hs4 _ (by omega), hs3 _ (by omega), wrM1 (by omega)]) (fun j hj => by rw [hs4 _ (by omega), hs3 _ (by omega)])⟩
theorem P_craft {p1 p2 : Int32} (hK : LK L x) (h : SX I0 I x n sn dn ac fi tp sd) : PR I0 L x 89 212 1 9 d e [.int p1, .int p2] I J z l ex := by
  have hn := h.n10
  have hs4 := h.i.2.1.2
  have hd20 := h.i.2.2.1.2
  have hol := BI_or h.i
  have hfz := frz_le (S := bd I (x + 1 + 2)) (n := n)
  refine e89 (t89_0 ?_)
  simp (disch := omega) only [vpT, nI_leI, nI_ltI, nI_eq, nleT, nleF, nltT, nltF, neqT, neqF, nI_add, pk_mul, subN, divN, nI_clamp, mI1, wrH, wrM1, wrM2, wrowH, wrowM, bI0, bI1, kIi, kVi, kRi, kLi, kIx, kVx, Option.some.injEq, exists_eq_left', true_and, and_true, true_implies, false_implies, implies_true, not_true_eq_false, not_false_eq_true, true_or, or_true, false_or, or_false, forall_eq, iteT, iteF, LK_ hK, LM_ hK.m, LB_ hK.b, h.n0]
  refine sp_checkElement (fun q => Or.inl ⟨rfl, (by unfold NE9; decide), I, J, rfl, (by first | exact h.2.2.2.2 | exact fun a ha => (em a (Or.inr ha)).trans (h.2.2.2.2 a ha) | exact fun a ha => (em2 a (Or.inr ha)).trans (h.2.2.2.2 a ha) | exact fun a ha => (hs a (by omega)).trans (h.2.2.2.2 a ha) | exact fun a ha => (wrM1 (by omega)).trans ((em a (Or.inr ha)).trans (h.2.2.2.2 a ha)) | exact fun a ha => (e3 a (by omega)).trans ((em a (Or.inr ha)).trans (h.2.2.2.2 a ha)) | exact fun a ha => (cs a (by omega) (by omega)).trans (h.2.2.2.2 a ha) | exact fun a ha => (hs2 a (by omega)).trans (h.2.2.2.2 a ha) | exact fun a ha => (e3 a (by omega) (by omega)).trans (h.2.2.2.2 a ha) | exact fun a ha => (e3 a (by omega) (by omega) (by omega) (by omega)).trans (h.2.2.2.2 a ha) | exact fun a ha => (hs5 a (by omega)).trans ((hs4' a (by omega)).trans ((hs3' a (by omega)).trans ((hs2 a (by omega)).trans (h.2.2.2.2 a ha)))) | (intro a ha; (try rw [wrM1 (by omega)]); (try rw [hs6 a (by omega)]); (try rw [hs5 a (by omega)]); (try rw [e5 a (by omega)]); (try rw [hs4 a (by omega)]); (try rw [e4 a (by omega)]); (try rw [hs3 a (by omega)]); (try rw [e3 a (by omega)]); (try rw [wrM1 (by omega)]); (try rw [hs2 a (by omega)]); (try rw [e2 a (by omega)]); (try rw [em2 a (Or.inr ha)]); (try rw [cs a (by omega) (by omega)]); (try rw [hs1 a (by omega)]); (try rw [hs a (by omega)]); (try rw [em a (Or.inr ha)]); exact h.2.2.2.2 a ha)), fun J2 => e212 (t212_0 ?_)⟩) (fun q1 q2 => t89_14 ?_)
  · simp (disch := omega) only [vpT, nI_leI, nI_ltI, nI_eq, nleT, nleF, nltT, nltF, neqT, neqF, nI_add, pk_mul, subN, divN, nI_clamp, mI1, wrH, wrM1, wrM2, wrowH, wrowM, bI0, bI1, kIi, kVi, kRi, kLi, kIx, kVx, Option.some.injEq, exists_eq_left', true_and, and_true, true_implies, false_implies, implies_true, not_true_eq_false, not_false_eq_true, true_or, or_true, false_or, or_false, forall_eq, iteT, iteF, LK_ hK, LM_ hK.m, LB_ hK.b]
    refine mp_isCraftF hK.m (by rw [wrM1 (by omega)]; exact h.m0) hn q (t212_11 ?_)
    simp (disch := omega) only [vpT, nI_leI, nI_ltI, nI_eq, nleT, nleF, nltT, nltF, neqT, neqF, nI_add, pk_mul, subN, divN, nI_clamp, mI1, wrH, wrM1, wrM2, wrowH, wrowM, bI0, bI1, kIi, kVi, kRi, kLi, kIx, kVx, Option.some.injEq, exists_eq_left', true_and, and_true, true_implies, false_implies, implies_true, not_true_eq_false, not_false_eq_true, true_or, or_true, false_or, or_false, forall_eq, iteT, iteF, LK_ hK, LM_ hK.m, LB_ hK.b]
    refine mp_rightF hK.m (wrH rfl rfl) (by decide) (by decide) (t212_35 ?_)
    simp (disch := omega) only [vpT, nI_leI, nI_ltI, nI_eq, nleT, nleF, nltT, nltF, neqT, neqF, nI_add, pk_mul, subN, divN, nI_clamp, mI1, wrH, wrM1, wrM2, wrowH, wrowM, bI0, bI1, kIi, kVi, kRi, kLi, kIx, kVx, Option.some.injEq, exists_eq_left', true_and, and_true, true_implies, false_implies, implies_true, not_true_eq_false, not_false_eq_true, true_or, or_true, false_or, or_false, forall_eq, iteT, iteF, LK_ hK, LM_ hK.m, LB_ hK.b]
    exact ff h same.rf rfl
  refine sp_checkElement (fun q => Or.inl ⟨rfl, (by unfold NE9; decide), I, J, rfl, (by first | exact h.2.2.2.2 | exact fun a ha => (em a (Or.inr ha)).trans (h.2.2.2.2 a ha) | exact fun a ha => (em2 a (Or.inr ha)).trans (h.2.2.2.2 a ha) | exact fun a ha => (hs a (by omega)).trans (h.2.2.2.2 a ha) | exact fun a ha => (wrM1 (by omega)).trans ((em a (Or.inr ha)).trans (h.2.2.2.2 a ha)) | exact fun a ha => (e3 a (by omega)).trans ((em a (Or.inr ha)).trans (h.2.2.2.2 a ha)) | exact fun a ha => (cs a (by omega) (by omega)).trans (h.2.2.2.2 a ha) | exact fun a ha => (hs2 a (by omega)).trans (h.2.2.2.2 a ha) | exact fun a ha => (e3 a (by omega) (by omega)).trans (h.2.2.2.2 a ha) | exact fun a ha => (e3 a (by omega) (by omega) (by omega) (by omega)).trans (h.2.2.2.2 a ha) | exact fun a ha => (hs5 a (by omega)).trans ((hs4' a (by omega)).trans ((hs3' a (by omega)).trans ((hs2 a (by omega)).trans (h.2.2.2.2 a ha)))) | (intro a ha; (try rw [wrM1 (by omega)]); (try rw [hs6 a (by omega)]); (try rw [hs5 a (by omega)]); (try rw [e5 a (by omega)]); (try rw [hs4 a (by omega)]); (try rw [e4 a (by omega)]); (try rw [hs3 a (by omega)]); (try rw [e3 a (by omega)]); (try rw [wrM1 (by omega)]); (try rw [hs2 a (by omega)]); (try rw [e2 a (by omega)]); (try rw [em2 a (Or.inr ha)]); (try rw [cs a (by omega) (by omega)]); (try rw [hs1 a (by omega)]); (try rw [hs a (by omega)]); (try rw [em a (Or.inr ha)]); exact h.2.2.2.2 a ha)), fun J2 => e212 (t212_0 ?_)⟩) (fun q3 q4 => t89_20 ?_)
  · simp (disch := omega) only [vpT, nI_leI, nI_ltI, nI_eq, nleT, nleF, nltT, nltF, neqT, neqF, nI_add, pk_mul, subN, divN, nI_clamp, mI1, wrH, wrM1, wrM2, wrowH, wrowM, bI0, bI1, kIi, kVi, kRi, kLi, kIx, kVx, Option.some.injEq, exists_eq_left', true_and, and_true, true_implies, false_implies, implies_true, not_true_eq_false, not_false_eq_true, true_or, or_true, false_or, or_false, forall_eq, iteT, iteF, LK_ hK, LM_ hK.m, LB_ hK.b]
    refine mp_isCraftT hK.m (by rw [wrM1 (by omega)]; exact h.m0) hn ⟨q1, q2⟩ (t212_11 ?_)
    simp (disch := omega) only [vpT, nI_leI, nI_ltI, nI_eq, nleT, nleF, nltT, nltF, neqT, neqF, nI_add, pk_mul, subN, divN, nI_clamp, mI1, wrH, wrM1, wrM2, wrowH, wrowM, bI0, bI1, kIi, kVi, kRi, kLi, kIx, kVx, Option.some.injEq, exists_eq_left', true_and, and_true, true_implies, false_implies, implies_true, not_true_eq_false, not_false_eq_true, true_or, or_true, false_or, or_false, forall_eq, iteT, iteF, LK_ hK, LM_ hK.m, LB_ hK.b]
    refine mp_inF (lo := nI 0) (hi := nI 13) rfl rfl (fun q' => q ⟨q'.1, (lt_le (by decide)).mpr q'.2⟩) (t212_23 ?_)
    simp (disch := omega) only [vpT, nI_leI, nI_ltI, nI_eq, nleT, nleF, nltT, nltF, neqT, neqF, nI_add, pk_mul, subN, divN, nI_clamp, mI1, wrH, wrM1, wrM2, wrowH, wrowM, bI0, bI1, kIi, kVi, kRi, kLi, kIx, kVx, Option.some.injEq, exists_eq_left', true_and, and_true, true_implies, false_implies, implies_true, not_true_eq_false, not_false_eq_true, true_or, or_true, false_or, or_false, forall_eq, iteT, iteF, LK_ hK, LM_ hK.m, LB_ hK.b]
    refine mp_rightF hK.m (wrH rfl rfl) (by decide) (by decide) (t212_35 ?_)
    simp (disch := omega) only [vpT, nI_leI, nI_ltI, nI_eq, nleT, nleF, nltT, nltF, neqT, neqF, nI_add, pk_mul, subN, divN, nI_clamp, mI1, wrH, wrM1, wrM2, wrowH, wrowM, bI0, bI1, kIi, kVi, kRi, kLi, kIx, kVx, Option.some.injEq, exists_eq_left', true_and, and_true, true_implies, false_implies, implies_true, not_true_eq_false, not_false_eq_true, true_or, or_true, false_or, or_false, forall_eq, iteT, iteF, LK_ hK, LM_ hK.m, LB_ hK.b]
    exact ff h same.rf rfl
  obtain ⟨c, hc, rfl⟩ := i_lt (by omega) q1 q2
  obtain ⟨w, hw, rfl⟩ := i_lt (by omega) q3 q4
  obtain ⟨a, ha, hac⟩ := pigeon (fun j hj => (hol j hj).2) h.v.2.1 c hc
  have mod : ∀ I2, same I I2 (tb (x + 1)) → MD I0 L x 212 e [.int (nI c), .int (nI w)] (fun r2 => r2 = crv (bd I (x + 1 + 2)) n dn c a w) 0 (z, l, ex) (L, I2, J, z, l, ex) := fun I2 hs2 => mo_craft hK h (hs2.up fun a ha => by omega) (hs2 _ (by omega)) h.v h.r ha hac hc hw
  have : w = 0 ∨ w = 1 ∨ w = 2 ∨ w = 3 ∨ w = 4 ∨ w = 5 ∨ w = 6 ∨ w = 7 ∨ w = 8 ∨ w = 9 ∨ w = 10 ∨ w = 11 ∨ w = 12 ∨ w = 13 := by omega
  rcases this with rfl | rfl | rfl | rfl | rfl | rfl | rfl | rfl | rfl | rfl | rfl | rfl | rfl | rfl
  · simp (disch := omega) only [vpT, nI_leI, nI_ltI, nI_eq, nleT, nleF, nltT, nltF, neqT, neqF, nI_add, pk_mul, subN, divN, nI_clamp, mI1, wrH, wrM1, wrM2, wrowH, wrowM, bI0, bI1, kIi, kVi, kRi, kLi, kIx, kVx, Option.some.injEq, exists_eq_left', true_and, and_true, true_implies, false_implies, implies_true, not_true_eq_false, not_false_eq_true, true_or, or_true, false_or, or_false, forall_eq, iteT, iteF, LK_ hK, LM_ hK.m, LB_ hK.b]
    have m := mod I same.rf
    rw [cv0] at m
    exact m
  · simp (disch := omega) only [vpT, nI_leI, nI_ltI, nI_eq, nleT, nleF, nltT, nltF, neqT, neqF, nI_add, pk_mul, subN, divN, nI_clamp, mI1, wrH, wrM1, wrM2, wrowH, wrowM, bI0, bI1, kIi, kVi, kRi, kLi, kIx, kVx, Option.some.injEq, exists_eq_left', true_and, and_true, true_implies, false_implies, implies_true, not_true_eq_false, not_false_eq_true, true_or, or_true, false_or, or_false, forall_eq, iteT, iteF, LK_ hK, LM_ hK.m, LB_ hK.b]
    have m := mod I same.rf
    rw [cv1] at m
    exact m
  · simp (disch := omega) only [vpT, nI_leI, nI_ltI, nI_eq, nleT, nleF, nltT, nltF, neqT, neqF, nI_add, pk_mul, subN, divN, nI_clamp, mI1, wrH, wrM1, wrM2, wrowH, wrowM, bI0, bI1, kIi, kVi, kRi, kLi, kIx, kVx, Option.some.injEq, exists_eq_left', true_and, and_true, true_implies, false_implies, implies_true, not_true_eq_false, not_false_eq_true, true_or, or_true, false_or, or_false, forall_eq, iteT, iteF, LK_ hK, LM_ hK.m, LB_ hK.b]
    have m := mod I same.rf
    rw [cv2] at m
    exact m
  · simp (disch := omega) only [vpT, nI_leI, nI_ltI, nI_eq, nleT, nleF, nltT, nltF, neqT, neqF, nI_add, pk_mul, subN, divN, nI_clamp, mI1, wrH, wrM1, wrM2, wrowH, wrowM, bI0, bI1, kIi, kVi, kRi, kLi, kIx, kVx, Option.some.injEq, exists_eq_left', true_and, and_true, true_implies, false_implies, implies_true, not_true_eq_false, not_false_eq_true, true_or, or_true, false_or, or_false, forall_eq, iteT, iteF, LK_ hK, LM_ hK.m, LB_ hK.b]
    have m := mod I same.rf
    rw [cv3] at m
    exact m
  · simp (disch := omega) only [vpT, nI_leI, nI_ltI, nI_eq, nleT, nleF, nltT, nltF, neqT, neqF, nI_add, pk_mul, subN, divN, nI_clamp, mI1, wrH, wrM1, wrM2, wrowH, wrowM, bI0, bI1, kIi, kVi, kRi, kLi, kIx, kVx, Option.some.injEq, exists_eq_left', true_and, and_true, true_implies, false_implies, implies_true, not_true_eq_false, not_false_eq_true, true_or, or_true, false_or, or_false, forall_eq, iteT, iteF, LK_ hK, LM_ hK.m, LB_ hK.b]
    refine sp_rankOf hK.b h.i hc (t89_129 ?_)
    simp (disch := omega) only [vpT, nI_leI, nI_ltI, nI_eq, nleT, nleF, nltT, nltF, neqT, neqF, nI_add, pk_mul, subN, divN, nI_clamp, mI1, wrH, wrM1, wrM2, wrowH, wrowM, bI0, bI1, kIi, kVi, kRi, kLi, kIx, kVx, Option.some.injEq, exists_eq_left', true_and, and_true, true_implies, false_implies, implies_true, not_true_eq_false, not_false_eq_true, true_or, or_true, false_or, or_false, forall_eq, iteT, iteF, LK_ hK, LM_ hK.m, LB_ hK.b]
    have m := mod I same.rf
    rw [cv4] at m
    exact m
  · simp (disch := omega) only [vpT, nI_leI, nI_ltI, nI_eq, nleT, nleF, nltT, nltF, neqT, neqF, nI_add, pk_mul, subN, divN, nI_clamp, mI1, wrH, wrM1, wrM2, wrowH, wrowM, bI0, bI1, kIi, kVi, kRi, kLi, kIx, kVx, Option.some.injEq, exists_eq_left', true_and, and_true, true_implies, false_implies, implies_true, not_true_eq_false, not_false_eq_true, true_or, or_true, false_or, or_false, forall_eq, iteT, iteF, LK_ hK, LM_ hK.m, LB_ hK.b]
    refine sp_placeOf hK.b h.i h.v.2.1 ha hac (t89_135 ?_)
    simp (disch := omega) only [vpT, nI_leI, nI_ltI, nI_eq, nleT, nleF, nltT, nltF, neqT, neqF, nI_add, pk_mul, subN, divN, nI_clamp, mI1, wrH, wrM1, wrM2, wrowH, wrowM, bI0, bI1, kIi, kVi, kRi, kLi, kIx, kVx, Option.some.injEq, exists_eq_left', true_and, and_true, true_implies, false_implies, implies_true, not_true_eq_false, not_false_eq_true, true_or, or_true, false_or, or_false, forall_eq, iteT, iteF, LK_ hK, LM_ hK.m, LB_ hK.b]
    have m := mod I same.rf
    rw [cv5] at m
    exact m
  · simp (disch := omega) only [vpT, nI_leI, nI_ltI, nI_eq, nleT, nleF, nltT, nltF, neqT, neqF, nI_add, pk_mul, subN, divN, nI_clamp, mI1, wrH, wrM1, wrM2, wrowH, wrowM, bI0, bI1, kIi, kVi, kRi, kLi, kIx, kVx, Option.some.injEq, exists_eq_left', true_and, and_true, true_implies, false_implies, implies_true, not_true_eq_false, not_false_eq_true, true_or, or_true, false_or, or_false, forall_eq, iteT, iteF, LK_ hK, LM_ hK.m, LB_ hK.b]
    refine sp_slotOf hK.r h.i h.v.2.1 ha hac fun I2 hs2 hT2 => t89_144 ?_
    simp (disch := omega) only [vpT, nI_leI, nI_ltI, nI_eq, nleT, nleF, nltT, nltF, neqT, neqF, nI_add, pk_mul, subN, divN, nI_clamp, mI1, wrH, wrM1, wrM2, wrowH, wrowM, bI0, bI1, kIi, kVi, kRi, kLi, kIx, kVx, Option.some.injEq, exists_eq_left', true_and, and_true, true_implies, false_implies, implies_true, not_true_eq_false, not_false_eq_true, true_or, or_true, false_or, or_false, forall_eq, iteT, iteF, LK_ hK, LM_ hK.m, LB_ hK.b]
    have m := mod I2 hs2
    rw [cv6] at m
    exact m
  · simp (disch := omega) only [vpT, nI_leI, nI_ltI, nI_eq, nleT, nleF, nltT, nltF, neqT, neqF, nI_add, pk_mul, subN, divN, nI_clamp, mI1, wrH, wrM1, wrM2, wrowH, wrowM, bI0, bI1, kIi, kVi, kRi, kLi, kIx, kVx, Option.some.injEq, exists_eq_left', true_and, and_true, true_implies, false_implies, implies_true, not_true_eq_false, not_false_eq_true, true_or, or_true, false_or, or_false, forall_eq, iteT, iteF, LK_ hK, LM_ hK.m, LB_ hK.b]
    refine sp_slotOf hK.r h.i h.v.2.1 ha hac fun I2 hs2 hT2 => t89_153 ?_
    have e2 : I2 (x + 1 + 2 + 2) = I (x + 1 + 2 + 2) := hs2 _ (by omega)
    simp (disch := omega) only [vpT, nI_leI, nI_ltI, nI_eq, nleT, nleF, nltT, nltF, neqT, neqF, nI_add, pk_mul, subN, divN, nI_clamp, mI1, wrH, wrM1, wrM2, wrowH, wrowM, bI0, bI1, kIi, kVi, kRi, kLi, kIx, kVx, Option.some.injEq, exists_eq_left', true_and, and_true, true_implies, false_implies, implies_true, not_true_eq_false, not_false_eq_true, true_or, or_true, false_or, or_false, forall_eq, iteT, iteF, LK_ hK, LM_ hK.m, LB_ hK.b, e2]
    have m := mod I2 hs2
    rw [cv7] at m
    exact m
  · simp (disch := omega) only [vpT, nI_leI, nI_ltI, nI_eq, nleT, nleF, nltT, nltF, neqT, neqF, nI_add, pk_mul, subN, divN, nI_clamp, mI1, wrH, wrM1, wrM2, wrowH, wrowM, bI0, bI1, kIi, kVi, kRi, kLi, kIx, kVx, Option.some.injEq, exists_eq_left', true_and, and_true, true_implies, false_implies, implies_true, not_true_eq_false, not_false_eq_true, true_or, or_true, false_or, or_false, forall_eq, iteT, iteF, LK_ hK, LM_ hK.m, LB_ hK.b]
    refine sp_placeOf hK.b h.i h.v.2.1 ha hac (t89_166 ?_)
    simp (disch := omega) only [vpT, nI_leI, nI_ltI, nI_eq, nleT, nleF, nltT, nltF, neqT, neqF, nI_add, pk_mul, subN, divN, nI_clamp, mI1, wrH, wrM1, wrM2, wrowH, wrowM, bI0, bI1, kIi, kVi, kRi, kLi, kIx, kVx, Option.some.injEq, exists_eq_left', true_and, and_true, true_implies, false_implies, implies_true, not_true_eq_false, not_false_eq_true, true_or, or_true, false_or, or_false, forall_eq, iteT, iteF, LK_ hK, LM_ hK.m, LB_ hK.b]
    refine sp_rankOf hK.b h.i hc (t89_171 ?_)
    have m := mod I same.rf
    rw [cv8] at m
    exact m
  · simp (disch := omega) only [vpT, nI_leI, nI_ltI, nI_eq, nleT, nleF, nltT, nltF, neqT, neqF, nI_add, pk_mul, subN, divN, nI_clamp, mI1, wrH, wrM1, wrM2, wrowH, wrowM, bI0, bI1, kIi, kVi, kRi, kLi, kIx, kVx, Option.some.injEq, exists_eq_left', true_and, and_true, true_implies, false_implies, implies_true, not_true_eq_false, not_false_eq_true, true_or, or_true, false_or, or_false, forall_eq, iteT, iteF, LK_ hK, LM_ hK.m, LB_ hK.b]
    refine sp_placeOf hK.b h.i h.v.2.1 ha hac (t89_178 ?_)
    simp (disch := omega) only [vpT, nI_leI, nI_ltI, nI_eq, nleT, nleF, nltT, nltF, neqT, neqF, nI_add, pk_mul, subN, divN, nI_clamp, mI1, wrH, wrM1, wrM2, wrowH, wrowM, bI0, bI1, kIi, kVi, kRi, kLi, kIx, kVx, Option.some.injEq, exists_eq_left', true_and, and_true, true_implies, false_implies, implies_true, not_true_eq_false, not_false_eq_true, true_or, or_true, false_or, or_false, forall_eq, iteT, iteF, LK_ hK, LM_ hK.m, LB_ hK.b]
    refine sp_frozen hK.r h.i fun I2 hs2 hT2 => t89_185 ?_
    have m9 := mod I2 hs2
    by_cases q : a < frz (bd I (x + 1 + 2)) n
    · simp (disch := omega) only [vpT, nI_leI, nI_ltI, nI_eq, nleT, nleF, nltT, nltF, neqT, neqF, nI_add, pk_mul, subN, divN, nI_clamp, mI1, wrH, wrM1, wrM2, wrowH, wrowM, bI0, bI1, kIi, kVi, kRi, kLi, kIx, kVx, Option.some.injEq, exists_eq_left', true_and, and_true, true_implies, false_implies, implies_true, not_true_eq_false, not_false_eq_true, true_or, or_true, false_or, or_false, forall_eq, iteT, iteF, LK_ hK, LM_ hK.m, LB_ hK.b]
      refine sp_bit (p := true) (t89_196 ?_)
      rw [cv9, if_pos q] at m9
      exact m9
    · simp (disch := omega) only [vpT, nI_leI, nI_ltI, nI_eq, nleT, nleF, nltT, nltF, neqT, neqF, nI_add, pk_mul, subN, divN, nI_clamp, mI1, wrH, wrM1, wrM2, wrowH, wrowM, bI0, bI1, kIi, kVi, kRi, kLi, kIx, kVx, Option.some.injEq, exists_eq_left', true_and, and_true, true_implies, false_implies, implies_true, not_true_eq_false, not_false_eq_true, true_or, or_true, false_or, or_false, forall_eq, iteT, iteF, LK_ hK, LM_ hK.m, LB_ hK.b]
      refine sp_bit (p := false) (t89_196 ?_)
      rw [cv9, if_neg q] at m9
      exact m9
  · simp (disch := omega) only [vpT, nI_leI, nI_ltI, nI_eq, nleT, nleF, nltT, nltF, neqT, neqF, nI_add, pk_mul, subN, divN, nI_clamp, mI1, wrH, wrM1, wrM2, wrowH, wrowM, bI0, bI1, kIi, kVi, kRi, kLi, kIx, kVx, Option.some.injEq, exists_eq_left', true_and, and_true, true_implies, false_implies, implies_true, not_true_eq_false, not_false_eq_true, true_or, or_true, false_or, or_false, forall_eq, iteT, iteF, LK_ hK, LM_ hK.m, LB_ hK.b]
    refine sp_slotOf hK.r h.i h.v.2.1 ha hac fun I2 hs2 hT2 => t89_206 ?_
    have e2 : I2 (x + 1 + 2 + 3) = I (x + 1 + 2 + 3) := hs2 _ (by omega)
    simp (disch := omega) only [vpT, nI_leI, nI_ltI, nI_eq, nleT, nleF, nltT, nltF, neqT, neqF, nI_add, pk_mul, subN, divN, nI_clamp, mI1, wrH, wrM1, wrM2, wrowH, wrowM, bI0, bI1, kIi, kVi, kRi, kLi, kIx, kVx, Option.some.injEq, exists_eq_left', true_and, and_true, true_implies, false_implies, implies_true, not_true_eq_false, not_false_eq_true, true_or, or_true, false_or, or_false, forall_eq, iteT, iteF, LK_ hK, LM_ hK.m, LB_ hK.b, e2]
    have m := mod I2 hs2
    rw [cv10] at m
    exact m
  · simp (disch := omega) only [vpT, nI_leI, nI_ltI, nI_eq, nleT, nleF, nltT, nltF, neqT, neqF, nI_add, pk_mul, subN, divN, nI_clamp, mI1, wrH, wrM1, wrM2, wrowH, wrowM, bI0, bI1, kIi, kVi, kRi, kLi, kIx, kVx, Option.some.injEq, exists_eq_left', true_and, and_true, true_implies, false_implies, implies_true, not_true_eq_false, not_false_eq_true, true_or, or_true, false_or, or_false, forall_eq, iteT, iteF, LK_ hK, LM_ hK.m, LB_ hK.b]
    have m := mod I same.rf
    rw [cv11] at m
    exact m
  · simp (disch := omega) only [vpT, nI_leI, nI_ltI, nI_eq, nleT, nleF, nltT, nltF, neqT, neqF, nI_add, pk_mul, subN, divN, nI_clamp, mI1, wrH, wrM1, wrM2, wrowH, wrowM, bI0, bI1, kIi, kVi, kRi, kLi, kIx, kVx, Option.some.injEq, exists_eq_left', true_and, and_true, true_implies, false_implies, implies_true, not_true_eq_false, not_false_eq_true, true_or, or_true, false_or, or_false, forall_eq, iteT, iteF, LK_ hK, LM_ hK.m, LB_ hK.b]
    refine sp_heldBy hK.r h.i h.v.2.1 ha hac fun I2 hs2 => t89_232 ?_
    simp (disch := omega) only [vpT, nI_leI, nI_ltI, nI_eq, nleT, nleF, nltT, nltF, neqT, neqF, nI_add, pk_mul, subN, divN, nI_clamp, mI1, wrH, wrM1, wrM2, wrowH, wrowM, bI0, bI1, kIi, kVi, kRi, kLi, kIx, kVx, Option.some.injEq, exists_eq_left', true_and, and_true, true_implies, false_implies, implies_true, not_true_eq_false, not_false_eq_true, true_or, or_true, false_or, or_false, forall_eq, iteT, iteF, LK_ hK, LM_ hK.m, LB_ hK.b]
    have m := mod I2 hs2
    rw [cv12] at m
    exact m
  · simp (disch := omega) only [vpT, nI_leI, nI_ltI, nI_eq, nleT, nleF, nltT, nltF, neqT, neqF, nI_add, pk_mul, subN, divN, nI_clamp, mI1, wrH, wrM1, wrM2, wrowH, wrowM, bI0, bI1, kIi, kVi, kRi, kLi, kIx, kVx, Option.some.injEq, exists_eq_left', true_and, and_true, true_implies, false_implies, implies_true, not_true_eq_false, not_false_eq_true, true_or, or_true, false_or, or_false, forall_eq, iteT, iteF, LK_ hK, LM_ hK.m, LB_ hK.b]
    refine sp_paper hK fun I2 hs2 hA2 => t89_237 ?_
    have hV2 := h.v.ag hA2
    have hR2 := h.r.ag hn hs4 hd20 hA2
    have hc2 : ordN (bd I2 (x + 28 + 2)) a = c := by
      rw [← hac]
      unfold ordN
      rw [(hA2.2.1 a (by omega)).2.2.2.2.2]
    simp (disch := omega) only [vpT, nI_leI, nI_ltI, nI_eq, nleT, nleF, nltT, nltF, neqT, neqF, nI_add, pk_mul, subN, divN, nI_clamp, mI1, wrH, wrM1, wrM2, wrowH, wrowM, bI0, bI1, kIi, kVi, kRi, kLi, kIx, kVx, Option.some.injEq, exists_eq_left', true_and, and_true, true_implies, false_implies, implies_true, not_true_eq_false, not_false_eq_true, true_or, or_true, false_or, or_false, forall_eq, iteT, iteF, LK_ hK, LM_ hK.m, LB_ hK.b]
    refine sp_useUpSlack (n := n) (sn := sn) (dn := dn) hK.p hV2.1 hV2.2.1 ha hc2 fun I3 hs3 => t89_241 ?_
    simp (disch := omega) only [vpT, nI_leI, nI_ltI, nI_eq, nleT, nleF, nltT, nltF, neqT, neqF, nI_add, pk_mul, subN, divN, nI_clamp, mI1, wrH, wrM1, wrM2, wrowH, wrowM, bI0, bI1, kIi, kVi, kRi, kLi, kIx, kVx, Option.some.injEq, exists_eq_left', true_and, and_true, true_implies, false_implies, implies_true, not_true_eq_false, not_false_eq_true, true_or, or_true, false_or, or_false, forall_eq, iteT, iteF, LK_ hK, LM_ hK.m, LB_ hK.b]
    have := mo_craft (I2 := I3) (J := J) (t := (z, l, ex)) (e := e) (S := bd I2 (x + 28 + 2)) (w := 13) hK h (fun b hb => by rw [hs3 b (by omega), hs2 b (by omega)]) (by rw [hs3 _ (by omega), hs2 _ (by omega)]) hV2 hR2 ha hc2 hc (by decide)
    rw [cv13, ← hc2, slack_same hV2 (by decide) ha, hc2] at this
    exact this
theorem mo_count {w : Nat} (hK : LK L x) (h : SX I0 I x n sn dn ac fi tp sd) (hs2 : same I I2 (tb (x + 1))) (hw : w < 17) : MD I0 L x 194 e [.int (nI w)] (fun r2 => r2 = cov (bd I (x + 1 + 2)) n sn dn ac tp w) 0 t (L, I2, J, t) := by
  have hn := h.n10
  have hol := BI_or h.i
  obtain ⟨sh, hs3, hsh⟩ := h.v.2.2.2.2
  have em : ∀ a, x + 271 ≤ a ∨ a < x → I2 a = I a := fun a ha => hs2 a (by omega)
  have hfz := frz_le (S := bd I (x + 1 + 2)) (n := n)
  refine ⟨I2, J, rfl, (by first | exact h.2.2.2.2 | exact fun a ha => (em a (Or.inr ha)).trans (h.2.2.2.2 a ha) | exact fun a ha => (em2 a (Or.inr ha)).trans (h.2.2.2.2 a ha) | exact fun a ha => (hs a (by omega)).trans (h.2.2.2.2 a ha) | exact fun a ha => (wrM1 (by omega)).trans ((em a (Or.inr ha)).trans (h.2.2.2.2 a ha)) | exact fun a ha => (e3 a (by omega)).trans ((em a (Or.inr ha)).trans (h.2.2.2.2 a ha)) | exact fun a ha => (cs a (by omega) (by omega)).trans (h.2.2.2.2 a ha) | exact fun a ha => (hs2 a (by omega)).trans (h.2.2.2.2 a ha) | exact fun a ha => (e3 a (by omega) (by omega)).trans (h.2.2.2.2 a ha) | exact fun a ha => (e3 a (by omega) (by omega) (by omega) (by omega)).trans (h.2.2.2.2 a ha) | exact fun a ha => (hs5 a (by omega)).trans ((hs4' a (by omega)).trans ((hs3' a (by omega)).trans ((hs2 a (by omega)).trans (h.2.2.2.2 a ha)))) | (intro a ha; (try rw [wrM1 (by omega)]); (try rw [hs6 a (by omega)]); (try rw [hs5 a (by omega)]); (try rw [e5 a (by omega)]); (try rw [hs4 a (by omega)]); (try rw [e4 a (by omega)]); (try rw [hs3 a (by omega)]); (try rw [e3 a (by omega)]); (try rw [wrM1 (by omega)]); (try rw [hs2 a (by omega)]); (try rw [e2 a (by omega)]); (try rw [em2 a (Or.inr ha)]); (try rw [cs a (by omega) (by omega)]); (try rw [hs1 a (by omega)]); (try rw [hs a (by omega)]); (try rw [em a (Or.inr ha)]); exact h.2.2.2.2 a ha)), fun J2 => e194 (t194_0 ?_)⟩
  simp (disch := omega) only [vpT, nI_leI, nI_ltI, nI_eq, nleT, nleF, nltT, nltF, neqT, neqF, nI_add, pk_mul, subN, divN, nI_clamp, mI1, wrH, wrM1, wrM2, wrowH, wrowM, bI0, bI1, kIi, kVi, kRi, kLi, kIx, kVx, Option.some.injEq, exists_eq_left', true_and, and_true, true_implies, false_implies, implies_true, not_true_eq_false, not_false_eq_true, true_or, or_true, false_or, or_false, forall_eq, iteT, iteF, LK_ hK, LM_ hK.m, LB_ hK.b]
  refine mp_inT (lo := nI 0) (hi := nI 16) rfl rfl ⟨nI_leI (by decide) (by omega) |>.mpr (by omega), nI_leI (by omega) (by omega) |>.mpr (by omega)⟩ (t194_15 ?_)
  simp (disch := omega) only [vpT, nI_leI, nI_ltI, nI_eq, nleT, nleF, nltT, nltF, neqT, neqF, nI_add, pk_mul, subN, divN, nI_clamp, mI1, wrH, wrM1, wrM2, wrowH, wrowM, bI0, bI1, kIi, kVi, kRi, kLi, kIx, kVx, Option.some.injEq, exists_eq_left', true_and, and_true, true_implies, false_implies, implies_true, not_true_eq_false, not_false_eq_true, true_or, or_true, false_or, or_false, forall_eq, iteT, iteF, LK_ hK, LM_ hK.m, LB_ hK.b]
  refine mp_rightT hK.m (wrH rfl rfl) (t194_19 ?_)
  simp (disch := omega) only [vpT, nI_leI, nI_ltI, nI_eq, nleT, nleF, nltT, nltF, neqT, neqF, nI_add, pk_mul, subN, divN, nI_clamp, mI1, wrH, wrM1, wrM2, wrowH, wrowM, bI0, bI1, kIi, kVi, kRi, kLi, kIx, kVx, Option.some.injEq, exists_eq_left', true_and, and_true, true_implies, false_implies, implies_true, not_true_eq_false, not_false_eq_true, true_or, or_true, false_or, or_false, forall_eq, iteT, iteF, LK_ hK, LM_ hK.m, LB_ hK.b]
  refine mp_frozenNow (S := bd I (x + 1 + 2)) (n := n) (sn := sn) (dn := dn) hK.m (by rw [wrM1 (by omega), em _ (by omega)]; exact h.r) h.i hol fun I3 hs3' hL3 => t194_28 ?_
  have r3 : I3 (x + 271 + 1) = I (x + 271 + 1) := by rw [hs3' _ (by omega), wrM1 (by omega), em _ (by omega)]
  have hR3 : Rel (I3 (x + 271 + 1)) (bd I (x + 1 + 2)) n sn dn := by rw [r3]; exact h.r
  have c5 : I3 (x + 271) 5 = nI ac := by rw [hs3' _ (by omega), wrM2 (by omega), em _ (by omega)]; exact h.2.2.1.2.2.1
  have c7 : I3 (x + 271) 7 = nI tp := by rw [hs3' _ (by omega), wrM2 (by omega), em _ (by omega)]; exact h.2.1.2.1
  have fin : FN I0 L x 0 J2 t (L, I3, J2, t) := f2 h (hs2.up fun a ha => by omega) (em _ (by omega)) (hs3'.up fun a ha => by omega) (by rw [hs3' _ (by omega), wrM1 (by omega)]) (by rw [hs3' _ (by omega), wrM1 (by omega)]) (fun j hj => by rw [hs3' _ (by omega)])
  have cost : ∀ (y : Int32) F X, F (cst (bd I (x + 1 + 2)) (ordN (bd I (x + 1 + 2))) y n) (L, I3, J2, t) → cal (e + 39) 208 [.ref (x + 271), .int y] (L, I3, J2, t) (kI F X) := fun y F X kk => mp_costOf (S := bd I (x + 1 + 2)) (n := n) (sn := sn) (dn := dn) (o := ordN (bd I (x + 1 + 2))) hK.m hR3 h.i (fun j hj => (hol j hj).2) hL3 kk
  have : w = 0 ∨ w = 1 ∨ w = 2 ∨ w = 3 ∨ w = 4 ∨ w = 5 ∨ w = 6 ∨ w = 7 ∨ w = 8 ∨ w = 9 ∨ w = 10 ∨ w = 11 ∨ w = 12 ∨ w = 13 ∨ w = 14 ∨ w = 15 ∨ w = 16 := by omega
  rcases this with rfl | rfl | rfl | rfl | rfl | rfl | rfl | rfl | rfl | rfl | rfl | rfl | rfl | rfl | rfl | rfl | rfl
  · simp (disch := omega) only [vpT, nI_leI, nI_ltI, nI_eq, nleT, nleF, nltT, nltF, neqT, neqF, nI_add, pk_mul, subN, divN, nI_clamp, mI1, wrH, wrM1, wrM2, wrowH, wrowM, bI0, bI1, kIi, kVi, kRi, kLi, kIx, kVx, Option.some.injEq, exists_eq_left', true_and, and_true, true_implies, false_implies, implies_true, not_true_eq_false, not_false_eq_true, true_or, or_true, false_or, or_false, forall_eq, iteT, iteF, LK_ hK, LM_ hK.m, LB_ hK.b]
    exact ⟨hR3.1.1.trans co0.symm, fin⟩
  · simp (disch := omega) only [vpT, nI_leI, nI_ltI, nI_eq, nleT, nleF, nltT, nltF, neqT, neqF, nI_add, pk_mul, subN, divN, nI_clamp, mI1, wrH, wrM1, wrM2, wrowH, wrowM, bI0, bI1, kIi, kVi, kRi, kLi, kIx, kVx, Option.some.injEq, exists_eq_left', true_and, and_true, true_implies, false_implies, implies_true, not_true_eq_false, not_false_eq_true, true_or, or_true, false_or, or_false, forall_eq, iteT, iteF, LK_ hK, LM_ hK.m, LB_ hK.b]
    exact ⟨hR3.1.2.1.trans co1.symm, fin⟩
  · simp (disch := omega) only [vpT, nI_leI, nI_ltI, nI_eq, nleT, nleF, nltT, nltF, neqT, neqF, nI_add, pk_mul, subN, divN, nI_clamp, mI1, wrH, wrM1, wrM2, wrowH, wrowM, bI0, bI1, kIi, kVi, kRi, kLi, kIx, kVx, Option.some.injEq, exists_eq_left', true_and, and_true, true_implies, false_implies, implies_true, not_true_eq_false, not_false_eq_true, true_or, or_true, false_or, or_false, forall_eq, iteT, iteF, LK_ hK, LM_ hK.m, LB_ hK.b]
    exact ⟨hR3.1.2.2.1.trans co2.symm, fin⟩
  · simp (disch := omega) only [vpT, nI_leI, nI_ltI, nI_eq, nleT, nleF, nltT, nltF, neqT, neqF, nI_add, pk_mul, subN, divN, nI_clamp, mI1, wrH, wrM1, wrM2, wrowH, wrowM, bI0, bI1, kIi, kVi, kRi, kLi, kIx, kVx, Option.some.injEq, exists_eq_left', true_and, and_true, true_implies, false_implies, implies_true, not_true_eq_false, not_false_eq_true, true_or, or_true, false_or, or_false, forall_eq, iteT, iteF, LK_ hK, LM_ hK.m, LB_ hK.b]
    exact ⟨hR3.1.2.2.2.1.trans co3.symm, fin⟩
  · simp (disch := omega) only [vpT, nI_leI, nI_ltI, nI_eq, nleT, nleF, nltT, nltF, neqT, neqF, nI_add, pk_mul, subN, divN, nI_clamp, mI1, wrH, wrM1, wrM2, wrowH, wrowM, bI0, bI1, kIi, kVi, kRi, kLi, kIx, kVx, Option.some.injEq, exists_eq_left', true_and, and_true, true_implies, false_implies, implies_true, not_true_eq_false, not_false_eq_true, true_or, or_true, false_or, or_false, forall_eq, iteT, iteF, LK_ hK, LM_ hK.m, LB_ hK.b]
    exact ⟨co4.symm, fin⟩
  · simp (disch := omega) only [vpT, nI_leI, nI_ltI, nI_eq, nleT, nleF, nltT, nltF, neqT, neqF, nI_add, pk_mul, subN, divN, nI_clamp, mI1, wrH, wrM1, wrM2, wrowH, wrowM, bI0, bI1, kIi, kVi, kRi, kLi, kIx, kVx, Option.some.injEq, exists_eq_left', true_and, and_true, true_implies, false_implies, implies_true, not_true_eq_false, not_false_eq_true, true_or, or_true, false_or, or_false, forall_eq, iteT, iteF, LK_ hK, LM_ hK.m, LB_ hK.b]
    exact ⟨hR3.1.2.2.2.2.2.trans co5.symm, fin⟩
  · simp (disch := omega) only [vpT, nI_leI, nI_ltI, nI_eq, nleT, nleF, nltT, nltF, neqT, neqF, nI_add, pk_mul, subN, divN, nI_clamp, mI1, wrH, wrM1, wrM2, wrowH, wrowM, bI0, bI1, kIi, kVi, kRi, kLi, kIx, kVx, Option.some.injEq, exists_eq_left', true_and, and_true, true_implies, false_implies, implies_true, not_true_eq_false, not_false_eq_true, true_or, or_true, false_or, or_false, forall_eq, iteT, iteF, LK_ hK, LM_ hK.m, LB_ hK.b]
    exact ⟨hR3.1.2.2.2.2.1.trans co6.symm, fin⟩
  · simp (disch := omega) only [vpT, nI_leI, nI_ltI, nI_eq, nleT, nleF, nltT, nltF, neqT, neqF, nI_add, pk_mul, subN, divN, nI_clamp, mI1, wrH, wrM1, wrM2, wrowH, wrowM, bI0, bI1, kIi, kVi, kRi, kLi, kIx, kVx, Option.some.injEq, exists_eq_left', true_and, and_true, true_implies, false_implies, implies_true, not_true_eq_false, not_false_eq_true, true_or, or_true, false_or, or_false, forall_eq, iteT, iteF, LK_ hK, LM_ hK.m, LB_ hK.b]
    exact ⟨c5.trans co7.symm, fin⟩
  · simp (disch := omega) only [vpT, nI_leI, nI_ltI, nI_eq, nleT, nleF, nltT, nltF, neqT, neqF, nI_add, pk_mul, subN, divN, nI_clamp, mI1, wrH, wrM1, wrM2, wrowH, wrowM, bI0, bI1, kIi, kVi, kRi, kLi, kIx, kVx, Option.some.injEq, exists_eq_left', true_and, and_true, true_implies, false_implies, implies_true, not_true_eq_false, not_false_eq_true, true_or, or_true, false_or, or_false, forall_eq, iteT, iteF, LK_ hK, LM_ hK.m, LB_ hK.b]
    exact ⟨c7.trans co8.symm, fin⟩
  · simp (disch := omega) only [vpT, nI_leI, nI_ltI, nI_eq, nleT, nleF, nltT, nltF, neqT, neqF, nI_add, pk_mul, subN, divN, nI_clamp, mI1, wrH, wrM1, wrM2, wrowH, wrowM, bI0, bI1, kIi, kVi, kRi, kLi, kIx, kVx, Option.some.injEq, exists_eq_left', true_and, and_true, true_implies, false_implies, implies_true, not_true_eq_false, not_false_eq_true, true_or, or_true, false_or, or_false, forall_eq, iteT, iteF, LK_ hK, LM_ hK.m, LB_ hK.b]
    refine mp_holds (S := bd I (x + 1 + 2)) (n := n) (sn := sn) (dn := dn) (o := ordN (bd I (x + 1 + 2))) hK.m hR3 h.i (fun j hj => (hol j hj).2) hL3 (t194_166 ?_)
    refine ⟨fun q => ⟨by rw [co9, q], fin⟩, fun q => ⟨?_, fin⟩⟩
    rw [bI0] at q
    rw [co9, btf q]
    rfl
  · simp (disch := omega) only [vpT, nI_leI, nI_ltI, nI_eq, nleT, nleF, nltT, nltF, neqT, neqF, nI_add, pk_mul, subN, divN, nI_clamp, mI1, wrH, wrM1, wrM2, wrowH, wrowM, bI0, bI1, kIi, kVi, kRi, kLi, kIx, kVx, Option.some.injEq, exists_eq_left', true_and, and_true, true_implies, false_implies, implies_true, not_true_eq_false, not_false_eq_true, true_or, or_true, false_or, or_false, forall_eq, iteT, iteF, LK_ hK, LM_ hK.m, LB_ hK.b]
    refine mp_isAllowed (S := bd I (x + 1 + 2)) (n := n) (sn := sn) (dn := dn) (T := 1999) (o := ordN (bd I (x + 1 + 2))) hK.m hR3 h.i h.v.2.2.1 hsh hs3 hol (fun j hj => (hol j hj).2) hL3.1 (by omega) (t194_180 ?_)
    refine ⟨fun q => ⟨by rw [co10, q], fin⟩, fun q => ⟨?_, fin⟩⟩
    rw [bI0] at q
    rw [co10, btf q]
    rfl
  · simp (disch := omega) only [vpT, nI_leI, nI_ltI, nI_eq, nleT, nleF, nltT, nltF, neqT, neqF, nI_add, pk_mul, subN, divN, nI_clamp, mI1, wrH, wrM1, wrM2, wrowH, wrowM, bI0, bI1, kIi, kVi, kRi, kLi, kIx, kVx, Option.some.injEq, exists_eq_left', true_and, and_true, true_implies, false_implies, implies_true, not_true_eq_false, not_false_eq_true, true_or, or_true, false_or, or_false, forall_eq, iteT, iteF, LK_ hK, LM_ hK.m, LB_ hK.b]
    exact cost _ _ _ (t194_197 ⟨co11.symm, fin⟩)
  · simp (disch := omega) only [vpT, nI_leI, nI_ltI, nI_eq, nleT, nleF, nltT, nltF, neqT, neqF, nI_add, pk_mul, subN, divN, nI_clamp, mI1, wrH, wrM1, wrM2, wrowH, wrowM, bI0, bI1, kIi, kVi, kRi, kLi, kIx, kVx, Option.some.injEq, exists_eq_left', true_and, and_true, true_implies, false_implies, implies_true, not_true_eq_false, not_false_eq_true, true_or, or_true, false_or, or_false, forall_eq, iteT, iteF, LK_ hK, LM_ hK.m, LB_ hK.b]
    exact cost _ _ _ (t194_197 ⟨co12.symm, fin⟩)
  · simp (disch := omega) only [vpT, nI_leI, nI_ltI, nI_eq, nleT, nleF, nltT, nltF, neqT, neqF, nI_add, pk_mul, subN, divN, nI_clamp, mI1, wrH, wrM1, wrM2, wrowH, wrowM, bI0, bI1, kIi, kVi, kRi, kLi, kIx, kVx, Option.some.injEq, exists_eq_left', true_and, and_true, true_implies, false_implies, implies_true, not_true_eq_false, not_false_eq_true, true_or, or_true, false_or, or_false, forall_eq, iteT, iteF, LK_ hK, LM_ hK.m, LB_ hK.b]
    exact cost _ _ _ (t194_197 ⟨co13.symm, fin⟩)
  · simp (disch := omega) only [vpT, nI_leI, nI_ltI, nI_eq, nleT, nleF, nltT, nltF, neqT, neqF, nI_add, pk_mul, subN, divN, nI_clamp, mI1, wrH, wrM1, wrM2, wrowH, wrowM, bI0, bI1, kIi, kVi, kRi, kLi, kIx, kVx, Option.some.injEq, exists_eq_left', true_and, and_true, true_implies, false_implies, implies_true, not_true_eq_false, not_false_eq_true, true_or, or_true, false_or, or_false, forall_eq, iteT, iteF, LK_ hK, LM_ hK.m, LB_ hK.b]
    exact mp_crooked (S := bd I (x + 1 + 2)) (n := n) (sn := sn) (dn := dn) (f := false) hK.m hR3 (t194_203 ⟨co14.symm, fin⟩)
  · simp (disch := omega) only [vpT, nI_leI, nI_ltI, nI_eq, nleT, nleF, nltT, nltF, neqT, neqF, nI_add, pk_mul, subN, divN, nI_clamp, mI1, wrH, wrM1, wrM2, wrowH, wrowM, bI0, bI1, kIi, kVi, kRi, kLi, kIx, kVx, Option.some.injEq, exists_eq_left', true_and, and_true, true_implies, false_implies, implies_true, not_true_eq_false, not_false_eq_true, true_or, or_true, false_or, or_false, forall_eq, iteT, iteF, LK_ hK, LM_ hK.m, LB_ hK.b]
    exact mp_crooked (S := bd I (x + 1 + 2)) (n := n) (sn := sn) (dn := dn) (f := true) hK.m hR3 (t194_209 ⟨co15.symm, fin⟩)
  · simp (disch := omega) only [vpT, nI_leI, nI_ltI, nI_eq, nleT, nleF, nltT, nltF, neqT, neqF, nI_add, pk_mul, subN, divN, nI_clamp, mI1, wrH, wrM1, wrM2, wrowH, wrowM, bI0, bI1, kIi, kVi, kRi, kLi, kIx, kVx, Option.some.injEq, exists_eq_left', true_and, and_true, true_implies, false_implies, implies_true, not_true_eq_false, not_false_eq_true, true_or, or_true, false_or, or_false, forall_eq, iteT, iteF, LK_ hK, LM_ hK.m, LB_ hK.b]
    exact mp_turned (S := bd I (x + 1 + 2)) (n := n) (sn := sn) (dn := dn) (T := 1999) hK.m hR3 h.i h.v.2.2.1 hol (t194_214 ⟨co16.symm, fin⟩)
theorem P_count {p1 : Int32} (hK : LK L x) (h : SX I0 I x n sn dn ac fi tp sd) : PR I0 L x 82 194 1 9 d e [.int p1] I J z l ex := by
  have hn := h.n10
  have hol := BI_or h.i
  have hfz := frz_le (S := bd I (x + 1 + 2)) (n := n)
  obtain ⟨sh, hs3, hsh⟩ := h.v.2.2.2.2
  refine e82 (t82_0 ?_)
  refine sp_checkElement (fun q => Or.inl ⟨rfl, (by unfold NE9; decide), I, J, rfl, (by first | exact h.2.2.2.2 | exact fun a ha => (em a (Or.inr ha)).trans (h.2.2.2.2 a ha) | exact fun a ha => (em2 a (Or.inr ha)).trans (h.2.2.2.2 a ha) | exact fun a ha => (hs a (by omega)).trans (h.2.2.2.2 a ha) | exact fun a ha => (wrM1 (by omega)).trans ((em a (Or.inr ha)).trans (h.2.2.2.2 a ha)) | exact fun a ha => (e3 a (by omega)).trans ((em a (Or.inr ha)).trans (h.2.2.2.2 a ha)) | exact fun a ha => (cs a (by omega) (by omega)).trans (h.2.2.2.2 a ha) | exact fun a ha => (hs2 a (by omega)).trans (h.2.2.2.2 a ha) | exact fun a ha => (e3 a (by omega) (by omega)).trans (h.2.2.2.2 a ha) | exact fun a ha => (e3 a (by omega) (by omega) (by omega) (by omega)).trans (h.2.2.2.2 a ha) | exact fun a ha => (hs5 a (by omega)).trans ((hs4' a (by omega)).trans ((hs3' a (by omega)).trans ((hs2 a (by omega)).trans (h.2.2.2.2 a ha)))) | (intro a ha; (try rw [wrM1 (by omega)]); (try rw [hs6 a (by omega)]); (try rw [hs5 a (by omega)]); (try rw [e5 a (by omega)]); (try rw [hs4 a (by omega)]); (try rw [e4 a (by omega)]); (try rw [hs3 a (by omega)]); (try rw [e3 a (by omega)]); (try rw [wrM1 (by omega)]); (try rw [hs2 a (by omega)]); (try rw [e2 a (by omega)]); (try rw [em2 a (Or.inr ha)]); (try rw [cs a (by omega) (by omega)]); (try rw [hs1 a (by omega)]); (try rw [hs a (by omega)]); (try rw [em a (Or.inr ha)]); exact h.2.2.2.2 a ha)), fun J2 => e194 (t194_0 ?_)⟩) (fun q3 q4 => t82_6 ?_)
  · simp (disch := omega) only [vpT, nI_leI, nI_ltI, nI_eq, nleT, nleF, nltT, nltF, neqT, neqF, nI_add, pk_mul, subN, divN, nI_clamp, mI1, wrH, wrM1, wrM2, wrowH, wrowM, bI0, bI1, kIi, kVi, kRi, kLi, kIx, kVx, Option.some.injEq, exists_eq_left', true_and, and_true, true_implies, false_implies, implies_true, not_true_eq_false, not_false_eq_true, true_or, or_true, false_or, or_false, forall_eq, iteT, iteF, LK_ hK, LM_ hK.m, LB_ hK.b]
    refine mp_inF (lo := nI 0) (hi := nI 16) rfl rfl (fun q' => q ⟨q'.1, (lt_le (by decide)).mpr q'.2⟩) (t194_15 ?_)
    simp (disch := omega) only [vpT, nI_leI, nI_ltI, nI_eq, nleT, nleF, nltT, nltF, neqT, neqF, nI_add, pk_mul, subN, divN, nI_clamp, mI1, wrH, wrM1, wrM2, wrowH, wrowM, bI0, bI1, kIi, kVi, kRi, kLi, kIx, kVx, Option.some.injEq, exists_eq_left', true_and, and_true, true_implies, false_implies, implies_true, not_true_eq_false, not_false_eq_true, true_or, or_true, false_or, or_false, forall_eq, iteT, iteF, LK_ hK, LM_ hK.m, LB_ hK.b]
    refine mp_rightF hK.m (wrH rfl rfl) (by decide) (by decide) (t194_19 ?_)
    simp (disch := omega) only [vpT, nI_leI, nI_ltI, nI_eq, nleT, nleF, nltT, nltF, neqT, neqF, nI_add, pk_mul, subN, divN, nI_clamp, mI1, wrH, wrM1, wrM2, wrowH, wrowM, bI0, bI1, kIi, kVi, kRi, kLi, kIx, kVx, Option.some.injEq, exists_eq_left', true_and, and_true, true_implies, false_implies, implies_true, not_true_eq_false, not_false_eq_true, true_or, or_true, false_or, or_false, forall_eq, iteT, iteF, LK_ hK, LM_ hK.m, LB_ hK.b]
    exact ff h same.rf rfl
  obtain ⟨w, hw, rfl⟩ := i_lt (by omega) q3 q4
  have mod : ∀ I2, same I I2 (tb (x + 1)) → MD I0 L x 194 e [.int (nI w)] (fun r2 => r2 = cov (bd I (x + 1 + 2)) n sn dn ac tp w) 0 (z, l, ex) (L, I2, J, z, l, ex) := fun I2 hs2 => mo_count hK h hs2 hw
  have h0 : I (x + 1 + 2) 0 = nI n := h.n0
  have h8 : I (x + 1 + 2) 8 = nI sn := h.i.2.1.1
  have h14 : I (x + 1 + 2) 14 = nI dn := h.i.2.2.1.1
  have ha2 : I (x + 58) 2 = nI ac := h.2.2.1.2.1
  have h7 : I x 7 = nI tp := h.2.1.1
  have : w = 0 ∨ w = 1 ∨ w = 2 ∨ w = 3 ∨ w = 4 ∨ w = 5 ∨ w = 6 ∨ w = 7 ∨ w = 8 ∨ w = 9 ∨ w = 10 ∨ w = 11 ∨ w = 12 ∨ w = 13 ∨ w = 14 ∨ w = 15 ∨ w = 16 := by omega
  rcases this with rfl | rfl | rfl | rfl | rfl | rfl | rfl | rfl | rfl | rfl | rfl | rfl | rfl | rfl | rfl | rfl | rfl
  · simp (disch := omega) only [vpT, nI_leI, nI_ltI, nI_eq, nleT, nleF, nltT, nltF, neqT, neqF, nI_add, pk_mul, subN, divN, nI_clamp, mI1, wrH, wrM1, wrM2, wrowH, wrowM, bI0, bI1, kIi, kVi, kRi, kLi, kIx, kVx, Option.some.injEq, exists_eq_left', true_and, and_true, true_implies, false_implies, implies_true, not_true_eq_false, not_false_eq_true, true_or, or_true, false_or, or_false, forall_eq, iteT, iteF, LK_ hK, LM_ hK.m, LB_ hK.b, h0]
    have m := mod I same.rf
    rw [co0] at m
    exact m
  · simp (disch := omega) only [vpT, nI_leI, nI_ltI, nI_eq, nleT, nleF, nltT, nltF, neqT, neqF, nI_add, pk_mul, subN, divN, nI_clamp, mI1, wrH, wrM1, wrM2, wrowH, wrowM, bI0, bI1, kIi, kVi, kRi, kLi, kIx, kVx, Option.some.injEq, exists_eq_left', true_and, and_true, true_implies, false_implies, implies_true, not_true_eq_false, not_false_eq_true, true_or, or_true, false_or, or_false, forall_eq, iteT, iteF, LK_ hK, LM_ hK.m, LB_ hK.b]
    have m := mod I same.rf
    rw [co1] at m
    exact m
  · simp (disch := omega) only [vpT, nI_leI, nI_ltI, nI_eq, nleT, nleF, nltT, nltF, neqT, neqF, nI_add, pk_mul, subN, divN, nI_clamp, mI1, wrH, wrM1, wrM2, wrowH, wrowM, bI0, bI1, kIi, kVi, kRi, kLi, kIx, kVx, Option.some.injEq, exists_eq_left', true_and, and_true, true_implies, false_implies, implies_true, not_true_eq_false, not_false_eq_true, true_or, or_true, false_or, or_false, forall_eq, iteT, iteF, LK_ hK, LM_ hK.m, LB_ hK.b]
    have m := mod I same.rf
    rw [co2] at m
    exact m
  · simp (disch := omega) only [vpT, nI_leI, nI_ltI, nI_eq, nleT, nleF, nltT, nltF, neqT, neqF, nI_add, pk_mul, subN, divN, nI_clamp, mI1, wrH, wrM1, wrM2, wrowH, wrowM, bI0, bI1, kIi, kVi, kRi, kLi, kIx, kVx, Option.some.injEq, exists_eq_left', true_and, and_true, true_implies, false_implies, implies_true, not_true_eq_false, not_false_eq_true, true_or, or_true, false_or, or_false, forall_eq, iteT, iteF, LK_ hK, LM_ hK.m, LB_ hK.b]
    have m := mod I same.rf
    rw [co3] at m
    exact m
  · simp (disch := omega) only [vpT, nI_leI, nI_ltI, nI_eq, nleT, nleF, nltT, nltF, neqT, neqF, nI_add, pk_mul, subN, divN, nI_clamp, mI1, wrH, wrM1, wrM2, wrowH, wrowM, bI0, bI1, kIi, kVi, kRi, kLi, kIx, kVx, Option.some.injEq, exists_eq_left', true_and, and_true, true_implies, false_implies, implies_true, not_true_eq_false, not_false_eq_true, true_or, or_true, false_or, or_false, forall_eq, iteT, iteF, LK_ hK, LM_ hK.m, LB_ hK.b]
    refine sp_frozen hK.r h.i fun I2 hs2 hT2 => t82_119 ?_
    simp (disch := omega) only [vpT, nI_leI, nI_ltI, nI_eq, nleT, nleF, nltT, nltF, neqT, neqF, nI_add, pk_mul, subN, divN, nI_clamp, mI1, wrH, wrM1, wrM2, wrowH, wrowM, bI0, bI1, kIi, kVi, kRi, kLi, kIx, kVx, Option.some.injEq, exists_eq_left', true_and, and_true, true_implies, false_implies, implies_true, not_true_eq_false, not_false_eq_true, true_or, or_true, false_or, or_false, forall_eq, iteT, iteF, LK_ hK, LM_ hK.m, LB_ hK.b]
    have m := mod I2 hs2
    rw [co4] at m
    exact m
  · simp (disch := omega) only [vpT, nI_leI, nI_ltI, nI_eq, nleT, nleF, nltT, nltF, neqT, neqF, nI_add, pk_mul, subN, divN, nI_clamp, mI1, wrH, wrM1, wrM2, wrowH, wrowM, bI0, bI1, kIi, kVi, kRi, kLi, kIx, kVx, Option.some.injEq, exists_eq_left', true_and, and_true, true_implies, false_implies, implies_true, not_true_eq_false, not_false_eq_true, true_or, or_true, false_or, or_false, forall_eq, iteT, iteF, LK_ hK, LM_ hK.m, LB_ hK.b, h14]
    have m := mod I same.rf
    rw [co5] at m
    exact m
  · simp (disch := omega) only [vpT, nI_leI, nI_ltI, nI_eq, nleT, nleF, nltT, nltF, neqT, neqF, nI_add, pk_mul, subN, divN, nI_clamp, mI1, wrH, wrM1, wrM2, wrowH, wrowM, bI0, bI1, kIi, kVi, kRi, kLi, kIx, kVx, Option.some.injEq, exists_eq_left', true_and, and_true, true_implies, false_implies, implies_true, not_true_eq_false, not_false_eq_true, true_or, or_true, false_or, or_false, forall_eq, iteT, iteF, LK_ hK, LM_ hK.m, LB_ hK.b, h8]
    have m := mod I same.rf
    rw [co6] at m
    exact m
  · simp (disch := omega) only [vpT, nI_leI, nI_ltI, nI_eq, nleT, nleF, nltT, nltF, neqT, neqF, nI_add, pk_mul, subN, divN, nI_clamp, mI1, wrH, wrM1, wrM2, wrowH, wrowM, bI0, bI1, kIi, kVi, kRi, kLi, kIx, kVx, Option.some.injEq, exists_eq_left', true_and, and_true, true_implies, false_implies, implies_true, not_true_eq_false, not_false_eq_true, true_or, or_true, false_or, or_false, forall_eq, iteT, iteF, LK_ hK, LM_ hK.m, LB_ hK.b, ha2]
    have m := mod I same.rf
    rw [co7] at m
    exact m
  · simp (disch := omega) only [vpT, nI_leI, nI_ltI, nI_eq, nleT, nleF, nltT, nltF, neqT, neqF, nI_add, pk_mul, subN, divN, nI_clamp, mI1, wrH, wrM1, wrM2, wrowH, wrowM, bI0, bI1, kIi, kVi, kRi, kLi, kIx, kVx, Option.some.injEq, exists_eq_left', true_and, and_true, true_implies, false_implies, implies_true, not_true_eq_false, not_false_eq_true, true_or, or_true, false_or, or_false, forall_eq, iteT, iteF, LK_ hK, LM_ hK.m, LB_ hK.b, h7]
    have m := mod I same.rf
    rw [co8] at m
    exact m
  · simp (disch := omega) only [vpT, nI_leI, nI_ltI, nI_eq, nleT, nleF, nltT, nltF, neqT, neqF, nI_add, pk_mul, subN, divN, nI_clamp, mI1, wrH, wrM1, wrM2, wrowH, wrowM, bI0, bI1, kIi, kVi, kRi, kLi, kIx, kVx, Option.some.injEq, exists_eq_left', true_and, and_true, true_implies, false_implies, implies_true, not_true_eq_false, not_false_eq_true, true_or, or_true, false_or, or_false, forall_eq, iteT, iteF, LK_ hK, LM_ hK.m, LB_ hK.b]
    refine sp_layPlan hK.r h.i fun I2 hs2 hT2 => t82_150 ?_
    have eb2 : bd I2 (x + 1 + 2) = bd I (x + 1 + 2) := hs2.bd fun a r1 r2 => by omega
    simp (disch := omega) only [vpT, nI_leI, nI_ltI, nI_eq, nleT, nleF, nltT, nltF, neqT, neqF, nI_add, pk_mul, subN, divN, nI_clamp, mI1, wrH, wrM1, wrM2, wrowH, wrowM, bI0, bI1, kIi, kVi, kRi, kLi, kIx, kVx, Option.some.injEq, exists_eq_left', true_and, and_true, true_implies, false_implies, implies_true, not_true_eq_false, not_false_eq_true, true_or, or_true, false_or, or_false, forall_eq, iteT, iteF, LK_ hK, LM_ hK.m, LB_ hK.b]
    refine sp_holds (n := n) (sn := sn) (dn := dn) (o := ordN (bd I (x + 1 + 2))) hK.r.t hK.b (by rw [eb2]; exact h.i) (fun j hj => (hol j hj).2) (by rw [eb2]; exact hT2) (t82_153 ?_)
    rw [eb2]
    refine sp_bit (t82_156 ?_)
    have m := mod I2 hs2
    rw [co9] at m
    exact m
  · simp (disch := omega) only [vpT, nI_leI, nI_ltI, nI_eq, nleT, nleF, nltT, nltF, neqT, neqF, nI_add, pk_mul, subN, divN, nI_clamp, mI1, wrH, wrM1, wrM2, wrowH, wrowM, bI0, bI1, kIi, kVi, kRi, kLi, kIx, kVx, Option.some.injEq, exists_eq_left', true_and, and_true, true_implies, false_implies, implies_true, not_true_eq_false, not_false_eq_true, true_or, or_true, false_or, or_false, forall_eq, iteT, iteF, LK_ hK, LM_ hK.m, LB_ hK.b]
    refine sp_frozen hK.r h.i fun I2 hs2 hT2 => t82_172 ?_
    have eb2 : bd I2 (x + 1 + 2) = bd I (x + 1 + 2) := hs2.bd fun a r1 r2 => by omega
    simp (disch := omega) only [vpT, nI_leI, nI_ltI, nI_eq, nleT, nleF, nltT, nltF, neqT, neqF, nI_add, pk_mul, subN, divN, nI_clamp, mI1, wrH, wrM1, wrM2, wrowH, wrowM, bI0, bI1, kIi, kVi, kRi, kLi, kIx, kVx, Option.some.injEq, exists_eq_left', true_and, and_true, true_implies, false_implies, implies_true, not_true_eq_false, not_false_eq_true, true_or, or_true, false_or, or_false, forall_eq, iteT, iteF, LK_ hK, LM_ hK.m, LB_ hK.b]
    refine sp_isAllowed (n := n) (sn := sn) (dn := dn) (sh := sh) (o := ordN (bd I (x + 1 + 2))) hK.r (by rw [eb2]; exact h.i) (by rw [eb2]; exact hsh) hs3 hfz (LB_ hK.b).2.2.1.2.2.2.2.2.1 (LB_ hK.b).2.2.2.2.2.2.2.2.1 (fun j hj => by rw [hs2 _ (by omega)]; exact hol j hj) (t82_175 ?_)
    rw [eb2]
    refine sp_bit (t82_178 ?_)
    have m := mod I2 hs2
    rw [co10] at m
    exact m
  · simp (disch := omega) only [vpT, nI_leI, nI_ltI, nI_eq, nleT, nleF, nltT, nltF, neqT, neqF, nI_add, pk_mul, subN, divN, nI_clamp, mI1, wrH, wrM1, wrM2, wrowH, wrowM, bI0, bI1, kIi, kVi, kRi, kLi, kIx, kVx, Option.some.injEq, exists_eq_left', true_and, and_true, true_implies, false_implies, implies_true, not_true_eq_false, not_false_eq_true, true_or, or_true, false_or, or_false, forall_eq, iteT, iteF, LK_ hK, LM_ hK.m, LB_ hK.b]
    refine sp_layPlan hK.r h.i fun I2 hs2 hT2 => t82_186 ?_
    have eb2 : bd I2 (x + 1 + 2) = bd I (x + 1 + 2) := hs2.bd fun a r1 r2 => by omega
    simp (disch := omega) only [vpT, nI_leI, nI_ltI, nI_eq, nleT, nleF, nltT, nltF, neqT, neqF, nI_add, pk_mul, subN, divN, nI_clamp, mI1, wrH, wrM1, wrM2, wrowH, wrowM, bI0, bI1, kIi, kVi, kRi, kLi, kIx, kVx, Option.some.injEq, exists_eq_left', true_and, and_true, true_implies, false_implies, implies_true, not_true_eq_false, not_false_eq_true, true_or, or_true, false_or, or_false, forall_eq, iteT, iteF, LK_ hK, LM_ hK.m, LB_ hK.b]
    refine sp_cost (n := n) (sn := sn) (dn := dn) (o := ordN (bd I (x + 1 + 2))) hK.r.t hK.b (by rw [eb2]; exact h.i) (fun j hj => (hol j hj).2) (by rw [eb2]; exact hT2) (t82_190 ?_)
    rw [eb2]
    have m := mod I2 hs2
    rw [co11] at m
    exact m
  · simp (disch := omega) only [vpT, nI_leI, nI_ltI, nI_eq, nleT, nleF, nltT, nltF, neqT, neqF, nI_add, pk_mul, subN, divN, nI_clamp, mI1, wrH, wrM1, wrM2, wrowH, wrowM, bI0, bI1, kIi, kVi, kRi, kLi, kIx, kVx, Option.some.injEq, exists_eq_left', true_and, and_true, true_implies, false_implies, implies_true, not_true_eq_false, not_false_eq_true, true_or, or_true, false_or, or_false, forall_eq, iteT, iteF, LK_ hK, LM_ hK.m, LB_ hK.b]
    refine sp_layPlan hK.r h.i fun I2 hs2 hT2 => t82_198 ?_
    have eb2 : bd I2 (x + 1 + 2) = bd I (x + 1 + 2) := hs2.bd fun a r1 r2 => by omega
    simp (disch := omega) only [vpT, nI_leI, nI_ltI, nI_eq, nleT, nleF, nltT, nltF, neqT, neqF, nI_add, pk_mul, subN, divN, nI_clamp, mI1, wrH, wrM1, wrM2, wrowH, wrowM, bI0, bI1, kIi, kVi, kRi, kLi, kIx, kVx, Option.some.injEq, exists_eq_left', true_and, and_true, true_implies, false_implies, implies_true, not_true_eq_false, not_false_eq_true, true_or, or_true, false_or, or_false, forall_eq, iteT, iteF, LK_ hK, LM_ hK.m, LB_ hK.b]
    refine sp_cost (n := n) (sn := sn) (dn := dn) (o := ordN (bd I (x + 1 + 2))) hK.r.t hK.b (by rw [eb2]; exact h.i) (fun j hj => (hol j hj).2) (by rw [eb2]; exact hT2) (t82_202 ?_)
    rw [eb2]
    have m := mod I2 hs2
    rw [co12] at m
    exact m
  · simp (disch := omega) only [vpT, nI_leI, nI_ltI, nI_eq, nleT, nleF, nltT, nltF, neqT, neqF, nI_add, pk_mul, subN, divN, nI_clamp, mI1, wrH, wrM1, wrM2, wrowH, wrowM, bI0, bI1, kIi, kVi, kRi, kLi, kIx, kVx, Option.some.injEq, exists_eq_left', true_and, and_true, true_implies, false_implies, implies_true, not_true_eq_false, not_false_eq_true, true_or, or_true, false_or, or_false, forall_eq, iteT, iteF, LK_ hK, LM_ hK.m, LB_ hK.b]
    refine sp_layPlan hK.r h.i fun I2 hs2 hT2 => t82_210 ?_
    have eb2 : bd I2 (x + 1 + 2) = bd I (x + 1 + 2) := hs2.bd fun a r1 r2 => by omega
    simp (disch := omega) only [vpT, nI_leI, nI_ltI, nI_eq, nleT, nleF, nltT, nltF, neqT, neqF, nI_add, pk_mul, subN, divN, nI_clamp, mI1, wrH, wrM1, wrM2, wrowH, wrowM, bI0, bI1, kIi, kVi, kRi, kLi, kIx, kVx, Option.some.injEq, exists_eq_left', true_and, and_true, true_implies, false_implies, implies_true, not_true_eq_false, not_false_eq_true, true_or, or_true, false_or, or_false, forall_eq, iteT, iteF, LK_ hK, LM_ hK.m, LB_ hK.b]
    refine sp_cost (n := n) (sn := sn) (dn := dn) (o := ordN (bd I (x + 1 + 2))) hK.r.t hK.b (by rw [eb2]; exact h.i) (fun j hj => (hol j hj).2) (by rw [eb2]; exact hT2) (t82_214 ?_)
    rw [eb2]
    have m := mod I2 hs2
    rw [co13] at m
    exact m
  · simp (disch := omega) only [vpT, nI_leI, nI_ltI, nI_eq, nleT, nleF, nltT, nltF, neqT, neqF, nI_add, pk_mul, subN, divN, nI_clamp, mI1, wrH, wrM1, wrM2, wrowH, wrowM, bI0, bI1, kIi, kVi, kRi, kLi, kIx, kVx, Option.some.injEq, exists_eq_left', true_and, and_true, true_implies, false_implies, implies_true, not_true_eq_false, not_false_eq_true, true_or, or_true, false_or, or_false, forall_eq, iteT, iteF, LK_ hK, LM_ hK.m, LB_ hK.b]
    refine sp_crookedRows hK.b (t82_219 ?_)
    have m := mod I same.rf
    rw [co14] at m
    exact m
  · simp (disch := omega) only [vpT, nI_leI, nI_ltI, nI_eq, nleT, nleF, nltT, nltF, neqT, neqF, nI_add, pk_mul, subN, divN, nI_clamp, mI1, wrH, wrM1, wrM2, wrowH, wrowM, bI0, bI1, kIi, kVi, kRi, kLi, kIx, kVx, Option.some.injEq, exists_eq_left', true_and, and_true, true_implies, false_implies, implies_true, not_true_eq_false, not_false_eq_true, true_or, or_true, false_or, or_false, forall_eq, iteT, iteF, LK_ hK, LM_ hK.m, LB_ hK.b]
    refine sp_firstCrooked hK.b (t82_224 ?_)
    have m := mod I same.rf
    rw [co15] at m
    exact m
  · simp (disch := omega) only [vpT, nI_leI, nI_ltI, nI_eq, nleT, nleF, nltT, nltF, neqT, neqF, nI_add, pk_mul, subN, divN, nI_clamp, mI1, wrH, wrM1, wrM2, wrowH, wrowM, bI0, bI1, kIi, kVi, kRi, kLi, kIx, kVx, Option.some.injEq, exists_eq_left', true_and, and_true, true_implies, false_implies, implies_true, not_true_eq_false, not_false_eq_true, true_or, or_true, false_or, or_false, forall_eq, iteT, iteF, LK_ hK, LM_ hK.m, LB_ hK.b]
    refine sp_turned hK.b h.i (t82_229 ?_)
    have m := mod I same.rf
    rw [co16] at m
    exact m
end CALLS11
