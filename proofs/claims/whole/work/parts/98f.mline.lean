/-! One line of a text: the model. -/
section LINEM
variable {I I2 I3 : Nat → Nat → Int32} {J J2 J3 : Nat → Nat → Int64} {L : hL} {x N n sn : Nat} {B : Nat → Int32} {P : PS} {S : BS} {t : tl} {F : Int32 → hp → Prop} {G : hp → Prop} {X : Nat → hp → Prop} {d : Nat}
def MG (I I2 : Nat → Nat → Int32) (J J2 : Nat → Nat → Int64) (x : Nat) : Prop := same I I2 (fun a => a = x + 271 ∨ a = x + 271 + 2) ∧ (∀ a, a ≠ x + 271 → J2 a = J a) ∧ ∀ j, j < 9 ∨ 16 < j → I2 (x + 271) j = I (x + 271) j
theorem MG.tr (h : MG I I2 J J2 x) (h2 : MG I2 I3 J2 J3 x) : MG I I3 J J3 x := ⟨h.1.tr h2.1, fun a ha => (h2.2.1 a ha).trans (h.2.1 a ha), fun j hj => (h2.2.2 j hj).trans (h.2.2 j hj)⟩
theorem MF.g (h : MF I I2 J J2 x) : MG I I2 J J2 x := ⟨h.1.up fun a q => Or.inl q, h.2.1, h.2.2⟩
theorem MG.w {i : Nat} {v : Int32} (h : MG I I2 J J2 x) : MG I (wr I2 (x + 271 + 2) i v) J J2 x := ⟨fun a ha => by rw [wrM1 (by omega)]; exact h.1 a ha, h.2.1, fun j hj => by rw [wrM1 (by omega)]; exact h.2.2 j hj⟩
theorem MG.rf : MG I I J J x := ⟨same.rf, fun _ _ => rfl, fun _ _ => rfl⟩
theorem MR.w {i : Nat} {v : Int32} (h : MR I J B (x + 271) N P) : MR (wr I (x + 271 + 2) i v) J B (x + 271) N P := by
  unfold MR at h ⊢
  rw [wrM1 (by omega)]
  exact h
--facts LK_ hK, LM_ hK.m
theorem mp_line (hK : LK L x) (hW : WS L I x) (hB : ∀ j, j < N → I (x + 271 + 5) j = B j) (hb : ∀ j, j < N → byt (B j)) (hN : N ≤ 500) (hM : MR I J B (x + 271) N P) (hP : OKP B N P) (hf : P.2.2.2.2.1 = 0) (hV : VL S n sn 0) (hR : Rel (I (x + 271 + 2)) S n sn 0) (h188 : I (x + 271 + 2) 188 = nI 0)
    (k : ∀ I2 J2, MG I I2 J J2 x → MR I2 J2 B (x + 271) N (lnB B N P n sn) → ((lnB B N P n sn).2.2.2.2.1 = 0 → I2 (x + 271 + 2) 188 = nI 0 ∧ ∀ n' sn' S', LE B N P n sn S n' sn' S' → Rel (I2 (x + 271 + 2)) S' n' sn' 0) → G (L, I2, J2, t)) : cal (d + 7) 186 [.ref (x + 271)] (L, I, J, t) (kV G X) := by
  have hn := hV.1.1.1.2
  have hs4 := hV.1.1.2.1.2
  have m0 : I (x + 271 + 2) 0 = nI n := hR.1.1
  have m4 : I (x + 271 + 2) 4 = nI sn := hR.1.2.2.2.2.1
  have hW' : ∀ I2 J2, MG I I2 J J2 x → WS L I2 x := fun I2 J2 h => hW.fr fun a ha => h.1 a (by omega)
  have hB' : ∀ I2 J2, MG I I2 J J2 x → ∀ j, j < N → I2 (x + 271 + 5) j = B j := fun I2 J2 h j hj => by rw [h.1 _ (by omega)]; exact hB j hj
  refine e186 (t186_0 ?_)
  simp (disch := omega) only [vpT, nI_leI, nI_ltI, nI_eq, nleT, nleF, nltT, nltF, neqT, neqF, nI_add, pk_mul, subN, divN, nI_clamp, mI1, wrH, wrM1, wrM2, wrowH, wrowM, bI0, bI1, kIi, kVi, kRi, kLi, kIx, kVx, Option.some.injEq, exists_eq_left', true_and, and_true, true_implies, false_implies, implies_true, not_true_eq_false, not_false_eq_true, true_or, or_true, false_or, or_false, forall_eq, iteT, iteF, LK_ hK, LM_ hK.m]
  refine mp_isWord hK hW hM hP hN (by decide) (t186_6 ?_)
  cases h0 : iw B P 0 with
  | true =>
    have eB : lnB B N P n sn = nmP B N (soP B N (soP B N (pst B N P))) 0 99 := by unfold lnB; rw [if_pos h0]
    rw [eB] at k
    simp (disch := omega) only [vpT, nI_leI, nI_ltI, nI_eq, nleT, nleF, nltT, nltF, neqT, neqF, nI_add, pk_mul, subN, divN, nI_clamp, mI1, wrH, wrM1, wrM2, wrowH, wrowM, bI0, bI1, kIi, kVi, kRi, kLi, kIx, kVx, Option.some.injEq, exists_eq_left', true_and, and_true, true_implies, false_implies, implies_true, not_true_eq_false, not_false_eq_true, true_or, or_true, false_or, or_false, forall_eq, iteT, iteF, LK_ hK, LM_ hK.m, bI_t]
    refine mp_st hK hB hb hN hM hP hf fun I2 J2 f2 hM2 => t186_13 ?_
    have u2 := f2.g
    simp (disch := omega) only [vpT, nI_leI, nI_ltI, nI_eq, nleT, nleF, nltT, nltF, neqT, neqF, nI_add, pk_mul, subN, divN, nI_clamp, mI1, wrH, wrM1, wrM2, wrowH, wrowM, bI0, bI1, kIi, kVi, kRi, kLi, kIx, kVx, Option.some.injEq, exists_eq_left', true_and, and_true, true_implies, false_implies, implies_true, not_true_eq_false, not_false_eq_true, true_or, or_true, false_or, or_false, forall_eq, iteT, iteF, LK_ hK, LM_ hK.m]
    refine mp_sort hK (hW' _ _ u2) (hB' _ _ u2) hb hN hM2 hP.pst fun I3 J3 r3 f3 hM3 l3 e3 => t186_17 ?_
    have u3 := u2.tr f3.g
    simp (disch := omega) only [vpT, nI_leI, nI_ltI, nI_eq, nleT, nleF, nltT, nltF, neqT, neqF, nI_add, pk_mul, subN, divN, nI_clamp, mI1, wrH, wrM1, wrM2, wrowH, wrowM, bI0, bI1, kIi, kVi, kRi, kLi, kIx, kVx, Option.some.injEq, exists_eq_left', true_and, and_true, true_implies, false_implies, implies_true, not_true_eq_false, not_false_eq_true, true_or, or_true, false_or, or_false, forall_eq, iteT, iteF, LK_ hK, LM_ hK.m]
    refine mp_sort hK (hW' _ _ u3) (hB' _ _ u3) hb hN hM3 hP.pst.so fun I4 J4 r4 f4 hM4 l4 e4 => t186_22 ?_
    have u4 := u3.tr f4.g
    simp (disch := omega) only [vpT, nI_leI, nI_ltI, nI_eq, nleT, nleF, nltT, nltF, neqT, neqF, nI_add, pk_mul, subN, divN, nI_clamp, mI1, wrH, wrM1, wrM2, wrowH, wrowM, bI0, bI1, kIi, kVi, kRi, kLi, kIx, kVx, Option.some.injEq, exists_eq_left', true_and, and_true, true_implies, false_implies, implies_true, not_true_eq_false, not_false_eq_true, true_or, or_true, false_or, or_false, forall_eq, iteT, iteF, LK_ hK, LM_ hK.m]
    refine mp_number (lo := 0) (hi := 99) hK (hB' _ _ u4) hb hN hM4 hP.pst.so.so (by decide) (by decide) fun I5 J5 r5 f5 hM5 e5 => t186_30 ?_
    have u5 := u4.tr f5.g
    have row : I5 (x + 271 + 2) = I (x + 271 + 2) := by rw [f5.1 _ (by omega), f4.1 _ (by omega), f3.1 _ (by omega), f2.1 _ (by omega)]
    simp (disch := omega) only [vpT, nI_leI, nI_ltI, nI_eq, nleT, nleF, nltT, nltF, neqT, neqF, nI_add, pk_mul, subN, divN, nI_clamp, mI1, wrH, wrM1, wrM2, wrowH, wrowM, bI0, bI1, kIi, kVi, kRi, kLi, kIx, kVx, Option.some.injEq, exists_eq_left', true_and, and_true, true_implies, false_implies, implies_true, not_true_eq_false, not_false_eq_true, true_or, or_true, false_or, or_false, forall_eq, iteT, iteF, LK_ hK, LM_ hK.m]
    refine mp_fine hK hM5 hP.pst.so.so.nm (t186_35 ?_)
    by_cases w : (nmP B N (soP B N (soP B N (pst B N P))) 0 99).2.2.2.2.1 = 0
    · rw [decide_eq_true w, bI_t]
      obtain ⟨a1, a2, a3, a4⟩ := nmP_0 w
      obtain ⟨b1, b2⟩ := soP_0 a1
      have e3 := e3 b1
      have e4 := e4 a1
      rw [if_pos w] at e5
      simp (disch := omega) only [vpT, nI_leI, nI_ltI, nI_eq, nleT, nleF, nltT, nltF, neqT, neqF, nI_add, pk_mul, subN, divN, nI_clamp, mI1, wrH, wrM1, wrM2, wrowH, wrowM, bI0, bI1, kIi, kVi, kRi, kLi, kIx, kVx, Option.some.injEq, exists_eq_left', true_and, and_true, true_implies, false_implies, implies_true, not_true_eq_false, not_false_eq_true, true_or, or_true, false_or, or_false, forall_eq, iteT, iteF, LK_ hK, LM_ hK.m]
      refine k _ J5 u5.w hM5.w fun _ => ⟨by rw [wrM2 (by omega), row]; exact h188, fun n' sn' S' h => ?_⟩
      unfold LE at h
      rw [if_pos h0] at h
      obtain ⟨rfl, rfl, g, rfl, hg⟩ := h
      refine hR.ga hn hs4 (by decide) (fun k hk => ?_) (fun j j1 j2 => by rw [wrM2 (by omega), row])
      rw [hg, ← e3, ← e4, ← e5]
      by_cases q : k = r3 * 8 + r4
      · rw [if_pos q]; exact wrH rfl (by omega)
      · rw [if_neg q, wrM2 (by omega), row]; exact hR.2.2.1 k hk
    · rw [decide_eq_false w, bI_f]
      simp (disch := omega) only [vpT, nI_leI, nI_ltI, nI_eq, nleT, nleF, nltT, nltF, neqT, neqF, nI_add, pk_mul, subN, divN, nI_clamp, mI1, wrH, wrM1, wrM2, wrowH, wrowM, bI0, bI1, kIi, kVi, kRi, kLi, kIx, kVx, Option.some.injEq, exists_eq_left', true_and, and_true, true_implies, false_implies, implies_true, not_true_eq_false, not_false_eq_true, true_or, or_true, false_or, or_false, forall_eq, iteT, iteF, LK_ hK, LM_ hK.m]
      exact k I5 J5 u5 hM5 fun q => absurd q w
  | false =>
  simp (disch := omega) only [vpT, nI_leI, nI_ltI, nI_eq, nleT, nleF, nltT, nltF, neqT, neqF, nI_add, pk_mul, subN, divN, nI_clamp, mI1, wrH, wrM1, wrM2, wrowH, wrowM, bI0, bI1, kIi, kVi, kRi, kLi, kIx, kVx, Option.some.injEq, exists_eq_left', true_and, and_true, true_implies, false_implies, implies_true, not_true_eq_false, not_false_eq_true, true_or, or_true, false_or, or_false, forall_eq, iteT, iteF, LK_ hK, LM_ hK.m, bI_f]
  refine mp_isWord hK hW hM hP hN (by decide) (t186_62 ?_)
  cases h3 : iw B P 3 with
  | true =>
    simp (disch := omega) only [vpT, nI_leI, nI_ltI, nI_eq, nleT, nleF, nltT, nltF, neqT, neqF, nI_add, pk_mul, subN, divN, nI_clamp, mI1, wrH, wrM1, wrM2, wrowH, wrowM, bI0, bI1, kIi, kVi, kRi, kLi, kIx, kVx, Option.some.injEq, exists_eq_left', true_and, and_true, true_implies, false_implies, implies_true, not_true_eq_false, not_false_eq_true, true_or, or_true, false_or, or_false, forall_eq, iteT, iteF, LK_ hK, LM_ hK.m, bI_t]
    refine e192 (t192_0 ?_)
    by_cases n10 : n = 10
    · have eB : lnB B N P n sn = rfs P 3 := by unfold lnB; rw [if_neg (by rw [h0]; decide), if_pos h3, if_pos n10]
      rw [eB] at k
      simp (disch := omega) only [vpT, nI_leI, nI_ltI, nI_eq, nleT, nleF, nltT, nltF, neqT, neqF, nI_add, pk_mul, subN, divN, nI_clamp, mI1, wrH, wrM1, wrM2, wrowH, wrowM, bI0, bI1, kIi, kVi, kRi, kLi, kIx, kVx, Option.some.injEq, exists_eq_left', true_and, and_true, true_implies, false_implies, implies_true, not_true_eq_false, not_false_eq_true, true_or, or_true, false_or, or_false, forall_eq, iteT, iteF, LK_ hK, LM_ hK.m, m0]
      refine mp_chk (b := false) (c := 3) hK hM hP (by decide) (by decide) fun I2 f2 hM2 => t192_23 ?_
      rw [if_neg (by decide)] at hM2 ⊢
      rw [rfs_f hf, decide_eq_false (by decide), bI_f]
      simp (disch := omega) only [vpT, nI_leI, nI_ltI, nI_eq, nleT, nleF, nltT, nltF, neqT, neqF, nI_add, pk_mul, subN, divN, nI_clamp, mI1, wrH, wrM1, wrM2, wrowH, wrowM, bI0, bI1, kIi, kVi, kRi, kLi, kIx, kVx, Option.some.injEq, exists_eq_left', true_and, and_true, true_implies, false_implies, implies_true, not_true_eq_false, not_false_eq_true, true_or, or_true, false_or, or_false, forall_eq, iteT, iteF, LK_ hK, LM_ hK.m]
      refine t186_69 ?_
      simp (disch := omega) only [vpT, nI_leI, nI_ltI, nI_eq, nleT, nleF, nltT, nltF, neqT, neqF, nI_add, pk_mul, subN, divN, nI_clamp, mI1, wrH, wrM1, wrM2, wrowH, wrowM, bI0, bI1, kIi, kVi, kRi, kLi, kIx, kVx, Option.some.injEq, exists_eq_left', true_and, and_true, true_implies, false_implies, implies_true, not_true_eq_false, not_false_eq_true, true_or, or_true, false_or, or_false, forall_eq, iteT, iteF, LK_ hK, LM_ hK.m]
      exact k I2 J f2.g hM2 fun q => by rw [rfs_f hf] at q; cases q
    · have eB : lnB B N P n sn = nmP B N (nmP B N (nmP B N (soP B N (pst B N P)) 0 999) (soP B N (pst B N P)).2.2.2.1 1999) 0 20 := by unfold lnB; rw [if_neg (by rw [h0]; decide), if_pos h3, if_neg n10]
      rw [eB] at k
      simp (disch := omega) only [vpT, nI_leI, nI_ltI, nI_eq, nleT, nleF, nltT, nltF, neqT, neqF, nI_add, pk_mul, subN, divN, nI_clamp, mI1, wrH, wrM1, wrM2, wrowH, wrowM, bI0, bI1, kIi, kVi, kRi, kLi, kIx, kVx, Option.some.injEq, exists_eq_left', true_and, and_true, true_implies, false_implies, implies_true, not_true_eq_false, not_false_eq_true, true_or, or_true, false_or, or_false, forall_eq, iteT, iteF, LK_ hK, LM_ hK.m, m0]
      refine mp_chk (b := true) (c := 3) hK hM hP (by decide) (by decide) fun I1 f1' hM1 => t192_23 ?_
      rw [if_pos rfl] at hM1 ⊢
      rw [decide_eq_true hf, bI_t]
      have u1 := f1'.g
      simp (disch := omega) only [vpT, nI_leI, nI_ltI, nI_eq, nleT, nleF, nltT, nltF, neqT, neqF, nI_add, pk_mul, subN, divN, nI_clamp, mI1, wrH, wrM1, wrM2, wrowH, wrowM, bI0, bI1, kIi, kVi, kRi, kLi, kIx, kVx, Option.some.injEq, exists_eq_left', true_and, and_true, true_implies, false_implies, implies_true, not_true_eq_false, not_false_eq_true, true_or, or_true, false_or, or_false, forall_eq, iteT, iteF, LK_ hK, LM_ hK.m]
      refine mp_st hK (hB' _ _ u1) hb hN hM1 hP hf fun I2 J2 f2 hM2 => t192_31 ?_
      have u2 := u1.tr f2.g
      simp (disch := omega) only [vpT, nI_leI, nI_ltI, nI_eq, nleT, nleF, nltT, nltF, neqT, neqF, nI_add, pk_mul, subN, divN, nI_clamp, mI1, wrH, wrM1, wrM2, wrowH, wrowM, bI0, bI1, kIi, kVi, kRi, kLi, kIx, kVx, Option.some.injEq, exists_eq_left', true_and, and_true, true_implies, false_implies, implies_true, not_true_eq_false, not_false_eq_true, true_or, or_true, false_or, or_false, forall_eq, iteT, iteF, LK_ hK, LM_ hK.m]
      refine mp_sort hK (hW' _ _ u2) (hB' _ _ u2) hb hN hM2 hP.pst fun I3 J3 r3 f3 hM3 l3 e3 => t192_49 ?_
      have u3 := (u2.tr f3.g)
      have u3' := u3.w (i := 6 + 4 * n) (v := nI r3)
      simp (disch := omega) only [vpT, nI_leI, nI_ltI, nI_eq, nleT, nleF, nltT, nltF, neqT, neqF, nI_add, pk_mul, subN, divN, nI_clamp, mI1, wrH, wrM1, wrM2, wrowH, wrowM, bI0, bI1, kIi, kVi, kRi, kLi, kIx, kVx, Option.some.injEq, exists_eq_left', true_and, and_true, true_implies, false_implies, implies_true, not_true_eq_false, not_false_eq_true, true_or, or_true, false_or, or_false, forall_eq, iteT, iteF, LK_ hK, LM_ hK.m]
      refine mp_number (lo := 0) (hi := 999) hK (hB' _ _ u3') hb hN hM3.w hP.pst.so (by decide) (by decide) fun I4 J4 r4 f4 hM4 e4 => t192_65 ?_
      have u4 := u3'.tr f4.g
      have l4 : r4 ≤ 999 := by
        rw [e4]
        split
        · rename_i q; exact (nmP_0 q).2.2.2
        · decide
      have enm : nmP B N (nmP B N (soP B N (pst B N P)) 0 999) r4 1999 = nmP B N (nmP B N (soP B N (pst B N P)) 0 999) (soP B N (pst B N P)).2.2.2.1 1999 := by
        by_cases f : (nmP B N (soP B N (pst B N P)) 0 999).2.2.2.2.1 = 0
        · rw [e4, if_pos f]
        · rw [nmP_n f, nmP_n f]
      have u4' := u4.w (i := 6 + 4 * n + 1) (v := nI r4)
      simp (disch := omega) only [vpT, nI_leI, nI_ltI, nI_eq, nleT, nleF, nltT, nltF, neqT, neqF, nI_add, pk_mul, subN, divN, nI_clamp, mI1, wrH, wrM1, wrM2, wrowH, wrowM, bI0, bI1, kIi, kVi, kRi, kLi, kIx, kVx, Option.some.injEq, exists_eq_left', true_and, and_true, true_implies, false_implies, implies_true, not_true_eq_false, not_false_eq_true, true_or, or_true, false_or, or_false, forall_eq, iteT, iteF, LK_ hK, LM_ hK.m]
      refine mp_number (lo := r4) (hi := 1999) hK (hB' _ _ u4') hb hN hM4.w hP.pst.so.nm (by omega) (by decide) fun I5 J5 r5 f5 hM5 e5 => t192_88 ?_
      rw [enm] at hM5 e5
      have u5 := u4'.tr f5.g
      have u5' := u5.w (i := 6 + 4 * n + 2) (v := nI r5)
      simp (disch := omega) only [vpT, nI_leI, nI_ltI, nI_eq, nleT, nleF, nltT, nltF, neqT, neqF, nI_add, pk_mul, subN, divN, nI_clamp, mI1, wrH, wrM1, wrM2, wrowH, wrowM, bI0, bI1, kIi, kVi, kRi, kLi, kIx, kVx, Option.some.injEq, exists_eq_left', true_and, and_true, true_implies, false_implies, implies_true, not_true_eq_false, not_false_eq_true, true_or, or_true, false_or, or_false, forall_eq, iteT, iteF, LK_ hK, LM_ hK.m]
      refine mp_number (lo := 0) (hi := 20) hK (hB' _ _ u5') hb hN hM5.w hP.pst.so.nm.nm (by decide) (by decide) fun I6 J6 r6 f6 hM6 e6 => t192_103 ?_
      have u6 := u5'.tr f6.g
      have row3 : I3 (x + 271 + 2) = I (x + 271 + 2) := by rw [f3.1 _ (by omega), f2.1 _ (by omega), f1'.1 _ (by omega)]
      have row6 : I6 (x + 271 + 2) = wr (fun _ => fun j => if j = 6 + 4 * n then nI r3 else if j = 6 + 4 * n + 1 then nI r4 else I (x + 271 + 2) j) 0 (6 + 4 * n + 2) (nI r5) 0 := by
        rw [f6.1 _ (by omega)]
        funext j
        by_cases q2 : j = 6 + 4 * n + 2
        · rw [wrH rfl q2, wrH rfl q2]
        · rw [wrM2 q2, wrM2 q2, f5.1 _ (by omega)]
          by_cases q1 : j = 6 + 4 * n + 1
          · rw [wrH rfl q1, if_neg (by omega), if_pos q1]
          · rw [wrM2 q1, f4.1 _ (by omega), if_neg q1]
            by_cases q0 : j = 6 + 4 * n
            · rw [wrH rfl (show j = 6 + 4 * n + 0 from q0), if_pos q0]
            · rw [wrM2 (show j ≠ 6 + 4 * n + 0 from q0), if_neg q0, row3]
      have r60 : I6 (x + 271 + 2) 0 = nI n := by rw [row6, wrM2 (by omega), if_neg (by omega), if_neg (by omega)]; exact m0
      simp (disch := omega) only [vpT, nI_leI, nI_ltI, nI_eq, nleT, nleF, nltT, nltF, neqT, neqF, nI_add, pk_mul, subN, divN, nI_clamp, mI1, wrH, wrM1, wrM2, wrowH, wrowM, bI0, bI1, kIi, kVi, kRi, kLi, kIx, kVx, Option.some.injEq, exists_eq_left', true_and, and_true, true_implies, false_implies, implies_true, not_true_eq_false, not_false_eq_true, true_or, or_true, false_or, or_false, forall_eq, iteT, iteF, LK_ hK, LM_ hK.m, r60]
      refine t186_69 ?_
      simp (disch := omega) only [vpT, nI_leI, nI_ltI, nI_eq, nleT, nleF, nltT, nltF, neqT, neqF, nI_add, pk_mul, subN, divN, nI_clamp, mI1, wrH, wrM1, wrM2, wrowH, wrowM, bI0, bI1, kIi, kVi, kRi, kLi, kIx, kVx, Option.some.injEq, exists_eq_left', true_and, and_true, true_implies, false_implies, implies_true, not_true_eq_false, not_false_eq_true, true_or, or_true, false_or, or_false, forall_eq, iteT, iteF, LK_ hK, LM_ hK.m]
      refine k _ J6 ((u6.w.w).w) ((hM6.w.w).w) fun w => ?_
      have r188 : I6 (x + 271 + 2) 188 = nI 0 := by rw [row6, wrM2 (by omega), if_neg (by omega), if_neg (by omega)]; exact h188
      refine ⟨by rw [wrM2 (by omega), wrM2 (by omega), wrM2 (by omega)]; exact r188, fun n' sn' S' h => ?_⟩
      obtain ⟨a1, a2, a3, a4⟩ := nmP_0 w
      obtain ⟨b1, b2, b3, b4⟩ := nmP_0 a1
      obtain ⟨c1, c2, c3, c4⟩ := nmP_0 b1
      rw [if_pos b1] at e4
      rw [if_pos a1] at e5
      rw [if_pos w] at e6
      unfold LE at h
      rw [if_neg (by rw [h0]; decide), if_pos h3] at h
      obtain ⟨rfl, rfl, h10, hA⟩ := h
      rw [← e6, ← e5, ← e3 c1, ← e4] at hA
      obtain ⟨ww, w1, w2, w3⟩ := hR.2.2.2.2.2
      have ww0 : ww = 0 := by
        rw [h188] at w2
        exact ((nI_eq (by decide) (by omega)).mp w2).symm
      subst ww0
      refine hA.rel hR (by omega) hs4 (by decide) (wrH rfl rfl) ?_ ?_ ?_ ?_ ?_ ⟨0, by decide, by rw [wrM2 (by omega), wrM2 (by omega), wrM2 (by omega)]; exact r188, by rw [Nat.zero_div], w3⟩ (fun j j0 j1 j2 j3 j4 j5 j6 => ?_)
      · rw [wrM2 (by omega), wrM2 (by omega), wrM2 (by omega), row6, wrM2 (by omega), if_pos rfl]
      · rw [wrM2 (by omega), wrM2 (by omega), wrM2 (by omega), row6, wrM2 (by omega), if_neg (by omega), if_pos rfl]
      · rw [wrM2 (by omega), wrM2 (by omega), wrM2 (by omega), row6]; exact wrH rfl rfl
      · rw [wrM2 (by omega), wrM2 (by omega)]; exact wrH rfl rfl
      · rw [wrM2 (by omega)]; exact wrH rfl rfl
      · rw [wrM2 (by omega), wrM2 (by omega), wrM2 (by omega), row6, wrM2 (by omega), if_neg (by omega), if_neg (by omega)]
  | false =>
  simp (disch := omega) only [vpT, nI_leI, nI_ltI, nI_eq, nleT, nleF, nltT, nltF, neqT, neqF, nI_add, pk_mul, subN, divN, nI_clamp, mI1, wrH, wrM1, wrM2, wrowH, wrowM, bI0, bI1, kIi, kVi, kRi, kLi, kIx, kVx, Option.some.injEq, exists_eq_left', true_and, and_true, true_implies, false_implies, implies_true, not_true_eq_false, not_false_eq_true, true_or, or_true, false_or, or_false, forall_eq, iteT, iteF, LK_ hK, LM_ hK.m, bI_f]
  refine mp_isWord hK hW hM hP hN (by decide) (t186_78 ?_)
  cases h4 : iw B P 4 with
  | true =>
    by_cases s4 : sn = 4
    · have eB : lnB B N P n sn = rfs P 3 := by unfold lnB; rw [if_neg (by rw [h0]; decide), if_neg (by rw [h3]; decide), if_pos h4, if_pos s4]
      rw [eB] at k
      simp (disch := omega) only [vpT, nI_leI, nI_ltI, nI_eq, nleT, nleF, nltT, nltF, neqT, neqF, nI_add, pk_mul, subN, divN, nI_clamp, mI1, wrH, wrM1, wrM2, wrowH, wrowM, bI0, bI1, kIi, kVi, kRi, kLi, kIx, kVx, Option.some.injEq, exists_eq_left', true_and, and_true, true_implies, false_implies, implies_true, not_true_eq_false, not_false_eq_true, true_or, or_true, false_or, or_false, forall_eq, iteT, iteF, LK_ hK, LM_ hK.m, bI_t, m4]
      refine mp_chk (b := false) (c := 3) hK hM hP (by decide) (by decide) fun I2 f2 hM2 => t186_101 ?_
      rw [if_neg (by decide)] at hM2 ⊢
      rw [rfs_f hf, decide_eq_false (by decide), bI_f]
      simp (disch := omega) only [vpT, nI_leI, nI_ltI, nI_eq, nleT, nleF, nltT, nltF, neqT, neqF, nI_add, pk_mul, subN, divN, nI_clamp, mI1, wrH, wrM1, wrM2, wrowH, wrowM, bI0, bI1, kIi, kVi, kRi, kLi, kIx, kVx, Option.some.injEq, exists_eq_left', true_and, and_true, true_implies, false_implies, implies_true, not_true_eq_false, not_false_eq_true, true_or, or_true, false_or, or_false, forall_eq, iteT, iteF, LK_ hK, LM_ hK.m]
      exact k I2 J f2.g hM2 fun q => by rw [rfs_f hf] at q; cases q
    · have eB : lnB B N P n sn = nmP B N (nmP B N (pst B N P) 0 1998) ((pst B N P).2.2.2.1 + 1) 1999 := by unfold lnB; rw [if_neg (by rw [h0]; decide), if_neg (by rw [h3]; decide), if_pos h4, if_neg s4]
      rw [eB] at k
      simp (disch := omega) only [vpT, nI_leI, nI_ltI, nI_eq, nleT, nleF, nltT, nltF, neqT, neqF, nI_add, pk_mul, subN, divN, nI_clamp, mI1, wrH, wrM1, wrM2, wrowH, wrowM, bI0, bI1, kIi, kVi, kRi, kLi, kIx, kVx, Option.some.injEq, exists_eq_left', true_and, and_true, true_implies, false_implies, implies_true, not_true_eq_false, not_false_eq_true, true_or, or_true, false_or, or_false, forall_eq, iteT, iteF, LK_ hK, LM_ hK.m, bI_t, m4]
      refine mp_chk (b := true) (c := 3) hK hM hP (by decide) (by decide) fun I1 f1' hM1 => t186_101 ?_
      rw [if_pos rfl] at hM1 ⊢
      rw [decide_eq_true hf, bI_t]
      have u1 := f1'.g
      simp (disch := omega) only [vpT, nI_leI, nI_ltI, nI_eq, nleT, nleF, nltT, nltF, neqT, neqF, nI_add, pk_mul, subN, divN, nI_clamp, mI1, wrH, wrM1, wrM2, wrowH, wrowM, bI0, bI1, kIi, kVi, kRi, kLi, kIx, kVx, Option.some.injEq, exists_eq_left', true_and, and_true, true_implies, false_implies, implies_true, not_true_eq_false, not_false_eq_true, true_or, or_true, false_or, or_false, forall_eq, iteT, iteF, LK_ hK, LM_ hK.m]
      refine mp_st hK (hB' _ _ u1) hb hN hM1 hP hf fun I2 J2 f2 hM2 => t186_109 ?_
      have u2 := u1.tr f2.g
      simp (disch := omega) only [vpT, nI_leI, nI_ltI, nI_eq, nleT, nleF, nltT, nltF, neqT, neqF, nI_add, pk_mul, subN, divN, nI_clamp, mI1, wrH, wrM1, wrM2, wrowH, wrowM, bI0, bI1, kIi, kVi, kRi, kLi, kIx, kVx, Option.some.injEq, exists_eq_left', true_and, and_true, true_implies, false_implies, implies_true, not_true_eq_false, not_false_eq_true, true_or, or_true, false_or, or_false, forall_eq, iteT, iteF, LK_ hK, LM_ hK.m]
      refine mp_number (lo := 0) (hi := 1998) hK (hB' _ _ u2) hb hN hM2 hP.pst (by decide) (by decide) fun I3 J3 r3 f3 hM3 e3 => t186_117 ?_
      have u3 := u2.tr f3.g
      have l3 : r3 ≤ 1998 := by
        rw [e3]
        split
        · rename_i q; exact (nmP_0 q).2.2.2
        · decide
      have enm : nmP B N (nmP B N (pst B N P) 0 1998) (r3 + 1) 1999 = nmP B N (nmP B N (pst B N P) 0 1998) ((pst B N P).2.2.2.1 + 1) 1999 := by
        by_cases f : (nmP B N (pst B N P) 0 1998).2.2.2.2.1 = 0
        · rw [e3, if_pos f]
        · rw [nmP_n f, nmP_n f]
      simp (disch := omega) only [vpT, nI_leI, nI_ltI, nI_eq, nleT, nleF, nltT, nltF, neqT, neqF, nI_add, pk_mul, subN, divN, nI_clamp, mI1, wrH, wrM1, wrM2, wrowH, wrowM, bI0, bI1, kIi, kVi, kRi, kLi, kIx, kVx, Option.some.injEq, exists_eq_left', true_and, and_true, true_implies, false_implies, implies_true, not_true_eq_false, not_false_eq_true, true_or, or_true, false_or, or_false, forall_eq, iteT, iteF, LK_ hK, LM_ hK.m]
      refine mp_number (lo := r3 + 1) (hi := 1999) hK (hB' _ _ u3) hb hN hM3 hP.pst.nm (by omega) (by decide) fun I4 J4 r4 f4 hM4 e4 => t186_128 ?_
      rw [enm] at hM4 e4
      have u4 := u3.tr f4.g
      have row : I4 (x + 271 + 2) = I (x + 271 + 2) := by rw [f4.1 _ (by omega), f3.1 _ (by omega), f2.1 _ (by omega), f1'.1 _ (by omega)]
      have r44 : I4 (x + 271 + 2) 4 = nI sn := by rw [row]; exact m4
      simp (disch := omega) only [vpT, nI_leI, nI_ltI, nI_eq, nleT, nleF, nltT, nltF, neqT, neqF, nI_add, pk_mul, subN, divN, nI_clamp, mI1, wrH, wrM1, wrM2, wrowH, wrowM, bI0, bI1, kIi, kVi, kRi, kLi, kIx, kVx, Option.some.injEq, exists_eq_left', true_and, and_true, true_implies, false_implies, implies_true, not_true_eq_false, not_false_eq_true, true_or, or_true, false_or, or_false, forall_eq, iteT, iteF, LK_ hK, LM_ hK.m, r44]
      refine k _ J4 ((u4.w.w).w) ((hM4.w.w).w) fun w => ⟨by rw [wrM2 (by omega), wrM2 (by omega), wrM2 (by omega), row]; exact h188, fun n' sn' S' h => ?_⟩
      obtain ⟨a1, a2, a3, a4⟩ := nmP_0 w
      rw [if_pos a1] at e3
      rw [if_pos w] at e4
      unfold LE at h
      rw [if_neg (by rw [h0]; decide), if_neg (by rw [h3]; decide), if_pos h4] at h
      obtain ⟨rfl, rfl, h44, g, g1, g2, rfl, q1, q2, q3, q4⟩ := h
      refine hR.sp hn (by decide) q1 (by omega) (wrH rfl rfl) (fun k hk => ?_) (fun j j1 j2 j3 => by rw [wrM2 (by omega), wrM2 (by omega), wrM2 (by omega), row])
      rw [q3, q4, ← e3, ← e4]
      by_cases ek : k = sn
      · rw [if_pos ek, if_pos ek]
        refine ⟨?_, ?_⟩
        · rw [wrM2 (by omega), wrM2 (by omega)]; exact wrH rfl (by omega)
        · rw [wrM2 (by omega)]; exact wrH rfl (by omega)
      · rw [if_neg ek, if_neg ek, wrM2 (by omega), wrM2 (by omega), wrM2 (by omega), wrM2 (by omega), wrM2 (by omega), wrM2 (by omega), row]
        exact hR.2.2.2.1 k (by omega)
  | false =>
  simp (disch := omega) only [vpT, nI_leI, nI_ltI, nI_eq, nleT, nleF, nltT, nltF, neqT, neqF, nI_add, pk_mul, subN, divN, nI_clamp, mI1, wrH, wrM1, wrM2, wrowH, wrowM, bI0, bI1, kIi, kVi, kRi, kLi, kIx, kVx, Option.some.injEq, exists_eq_left', true_and, and_true, true_implies, false_implies, implies_true, not_true_eq_false, not_false_eq_true, true_or, or_true, false_or, or_false, forall_eq, iteT, iteF, LK_ hK, LM_ hK.m, bI_f]
  refine mp_isWord hK hW hM hP hN (by decide) (t186_184 ?_)
  cases h5 : iw B P 5 with
  | true =>
    have eB : lnB B N P n sn = nmP B N (pst B N P) 0 3 := by unfold lnB; rw [if_neg (by rw [h0]; decide), if_neg (by rw [h3]; decide), if_neg (by rw [h4]; decide), if_pos h5]
    rw [eB] at k
    simp (disch := omega) only [vpT, nI_leI, nI_ltI, nI_eq, nleT, nleF, nltT, nltF, neqT, neqF, nI_add, pk_mul, subN, divN, nI_clamp, mI1, wrH, wrM1, wrM2, wrowH, wrowM, bI0, bI1, kIi, kVi, kRi, kLi, kIx, kVx, Option.some.injEq, exists_eq_left', true_and, and_true, true_implies, false_implies, implies_true, not_true_eq_false, not_false_eq_true, true_or, or_true, false_or, or_false, forall_eq, iteT, iteF, LK_ hK, LM_ hK.m, bI_t]
    refine mp_st hK hB hb hN hM hP hf fun I2 J2 f2 hM2 => t186_191 ?_
    have u2 := f2.g
    simp (disch := omega) only [vpT, nI_leI, nI_ltI, nI_eq, nleT, nleF, nltT, nltF, neqT, neqF, nI_add, pk_mul, subN, divN, nI_clamp, mI1, wrH, wrM1, wrM2, wrowH, wrowM, bI0, bI1, kIi, kVi, kRi, kLi, kIx, kVx, Option.some.injEq, exists_eq_left', true_and, and_true, true_implies, false_implies, implies_true, not_true_eq_false, not_false_eq_true, true_or, or_true, false_or, or_false, forall_eq, iteT, iteF, LK_ hK, LM_ hK.m]
    refine mp_number (lo := 0) (hi := 3) hK (hB' _ _ u2) hb hN hM2 hP.pst (by decide) (by decide) fun I3 J3 r3 f3 hM3 e3 => t186_202 ?_
    have u3 := u2.tr f3.g
    have row : I3 (x + 271 + 2) = I (x + 271 + 2) := by rw [f3.1 _ (by omega), f2.1 _ (by omega)]
    simp (disch := omega) only [vpT, nI_leI, nI_ltI, nI_eq, nleT, nleF, nltT, nltF, neqT, neqF, nI_add, pk_mul, subN, divN, nI_clamp, mI1, wrH, wrM1, wrM2, wrowH, wrowM, bI0, bI1, kIi, kVi, kRi, kLi, kIx, kVx, Option.some.injEq, exists_eq_left', true_and, and_true, true_implies, false_implies, implies_true, not_true_eq_false, not_false_eq_true, true_or, or_true, false_or, or_false, forall_eq, iteT, iteF, LK_ hK, LM_ hK.m]
    refine k _ J3 u3.w hM3.w fun w => ⟨by rw [wrM2 (by omega), row]; exact h188, fun n' sn' S' h => ?_⟩
    rw [if_pos w] at e3
    unfold LE at h
    rw [if_neg (by rw [h0]; decide), if_neg (by rw [h3]; decide), if_neg (by rw [h4]; decide), if_pos h5] at h
    obtain ⟨rfl, rfl, g, rfl, q1, q2⟩ := h
    exact hR.fz hn hs4 (by decide) (fun j j1 _ => q1 j j1) (by rw [q2, ← e3]; exact wrH rfl rfl) (by rw [wrM2 (by omega), row, q1 12 (by decide)]; exact hR.1.2.2.2.1) (fun j j1 j2 => by rw [wrM2 j1, row])
  | false =>
  simp (disch := omega) only [vpT, nI_leI, nI_ltI, nI_eq, nleT, nleF, nltT, nltF, neqT, neqF, nI_add, pk_mul, subN, divN, nI_clamp, mI1, wrH, wrM1, wrM2, wrowH, wrowM, bI0, bI1, kIi, kVi, kRi, kLi, kIx, kVx, Option.some.injEq, exists_eq_left', true_and, and_true, true_implies, false_implies, implies_true, not_true_eq_false, not_false_eq_true, true_or, or_true, false_or, or_false, forall_eq, iteT, iteF, LK_ hK, LM_ hK.m, bI_f]
  refine mp_isWord hK hW hM hP hN (by decide) (t186_213 ?_)
  simp (disch := omega) only [vpT, nI_leI, nI_ltI, nI_eq, nleT, nleF, nltT, nltF, neqT, neqF, nI_add, pk_mul, subN, divN, nI_clamp, mI1, wrH, wrM1, wrM2, wrowH, wrowM, bI0, bI1, kIi, kVi, kRi, kLi, kIx, kVx, Option.some.injEq, exists_eq_left', true_and, and_true, true_implies, false_implies, implies_true, not_true_eq_false, not_false_eq_true, true_or, or_true, false_or, or_false, forall_eq, iteT, iteF, LK_ hK, LM_ hK.m]
  refine mp_chk (b := iw B P 6) (c := 1) hK hM hP (by decide) (by decide) fun I1 f1' hM1 => t186_217 ?_
  cases h6 : iw B P 6 with
  | true =>
    rw [h6, if_pos rfl] at hM1
    rw [if_pos rfl, decide_eq_true hf, bI_t]
    have eB : lnB B N P n sn = nmP B N (pst B N P) 0 99 := by unfold lnB; rw [if_neg (by rw [h0]; decide), if_neg (by rw [h3]; decide), if_neg (by rw [h4]; decide), if_neg (by rw [h5]; decide), if_pos h6]
    rw [eB] at k
    have u1 := f1'.g
    simp (disch := omega) only [vpT, nI_leI, nI_ltI, nI_eq, nleT, nleF, nltT, nltF, neqT, neqF, nI_add, pk_mul, subN, divN, nI_clamp, mI1, wrH, wrM1, wrM2, wrowH, wrowM, bI0, bI1, kIi, kVi, kRi, kLi, kIx, kVx, Option.some.injEq, exists_eq_left', true_and, and_true, true_implies, false_implies, implies_true, not_true_eq_false, not_false_eq_true, true_or, or_true, false_or, or_false, forall_eq, iteT, iteF, LK_ hK, LM_ hK.m]
    refine mp_st hK (hB' _ _ u1) hb hN hM1 hP hf fun I2 J2 f2 hM2 => t186_224 ?_
    have u2 := u1.tr f2.g
    simp (disch := omega) only [vpT, nI_leI, nI_ltI, nI_eq, nleT, nleF, nltT, nltF, neqT, neqF, nI_add, pk_mul, subN, divN, nI_clamp, mI1, wrH, wrM1, wrM2, wrowH, wrowM, bI0, bI1, kIi, kVi, kRi, kLi, kIx, kVx, Option.some.injEq, exists_eq_left', true_and, and_true, true_implies, false_implies, implies_true, not_true_eq_false, not_false_eq_true, true_or, or_true, false_or, or_false, forall_eq, iteT, iteF, LK_ hK, LM_ hK.m]
    refine mp_number (lo := 0) (hi := 99) hK (hB' _ _ u2) hb hN hM2 hP.pst (by decide) (by decide) fun I3 J3 r3 f3 hM3 e3 => t186_236 ?_
    have u3 := u2.tr f3.g
    have row : I3 (x + 271 + 2) = I (x + 271 + 2) := by rw [f3.1 _ (by omega), f2.1 _ (by omega), f1'.1 _ (by omega)]
    simp (disch := omega) only [vpT, nI_leI, nI_ltI, nI_eq, nleT, nleF, nltT, nltF, neqT, neqF, nI_add, pk_mul, subN, divN, nI_clamp, mI1, wrH, wrM1, wrM2, wrowH, wrowM, bI0, bI1, kIi, kVi, kRi, kLi, kIx, kVx, Option.some.injEq, exists_eq_left', true_and, and_true, true_implies, false_implies, implies_true, not_true_eq_false, not_false_eq_true, true_or, or_true, false_or, or_false, forall_eq, iteT, iteF, LK_ hK, LM_ hK.m]
    refine k _ J3 u3.w hM3.w fun w => ⟨by rw [wrM2 (by omega), row]; exact h188, fun n' sn' S' h => ?_⟩
    rw [if_pos w] at e3
    unfold LE at h
    rw [if_neg (by rw [h0]; decide), if_neg (by rw [h3]; decide), if_neg (by rw [h4]; decide), if_neg (by rw [h5]; decide)] at h
    obtain ⟨rfl, rfl, g, rfl, q1, q2⟩ := h
    exact hR.fz hn hs4 (by decide) (fun j _ j2 => q1 j j2) (by rw [wrM2 (by omega), row, q1 11 (by decide)]; exact hR.1.2.2.1) (by rw [q2, ← e3]; exact wrH rfl rfl) (fun j j1 j2 => by rw [wrM2 j2, row])
  | false =>
    rw [h6, if_neg (by decide)] at hM1
    rw [if_neg (by decide), rfs_f hf, decide_eq_false (by decide), bI_f]
    have eB : lnB B N P n sn = rfs P 1 := by unfold lnB; rw [if_neg (by rw [h0]; decide), if_neg (by rw [h3]; decide), if_neg (by rw [h4]; decide), if_neg (by rw [h5]; decide), if_neg (by rw [h6]; decide)]
    rw [eB] at k
    simp (disch := omega) only [vpT, nI_leI, nI_ltI, nI_eq, nleT, nleF, nltT, nltF, neqT, neqF, nI_add, pk_mul, subN, divN, nI_clamp, mI1, wrH, wrM1, wrM2, wrowH, wrowM, bI0, bI1, kIi, kVi, kRi, kLi, kIx, kVx, Option.some.injEq, exists_eq_left', true_and, and_true, true_implies, false_implies, implies_true, not_true_eq_false, not_false_eq_true, true_or, or_true, false_or, or_false, forall_eq, iteT, iteF, LK_ hK, LM_ hK.m]
    exact k I1 J f1'.g hM1 fun q => by rw [rfs_f hf] at q; cases q
end LINEM
