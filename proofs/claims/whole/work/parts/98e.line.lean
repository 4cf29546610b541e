/-! One line of a text. -/
def lnB (B : Nat → Int32) (N : Nat) (P : PS) (n sn : Nat) : PS :=
  if iw B P 0 = true then nmP B N (soP B N (soP B N (pst B N P))) 0 99
  else if iw B P 3 = true then (if n = 10 then rfs P 3 else nmP B N (nmP B N (nmP B N (soP B N (pst B N P)) 0 999) (soP B N (pst B N P)).2.2.2.1 1999) 0 20)
  else if iw B P 4 = true then (if sn = 4 then rfs P 3 else nmP B N (nmP B N (pst B N P) 0 1998) ((pst B N P).2.2.2.1 + 1) 1999)
  else if iw B P 5 = true then nmP B N (pst B N P) 0 3
  else if iw B P 6 = true then nmP B N (pst B N P) 0 99
  else rfs P 1
def lnP (B : Nat → Int32) (N : Nat) (P : PS) (n sn : Nat) : PS := pst B N (if (lnB B N P n sn).1 = 2 then lnB B N P n sn else rfs (lnB B N P n sn) 1)
/-- what a line without a fault makes of the board -/
def LE (B : Nat → Int32) (N : Nat) (P : PS) (n sn : Nat) (S : BS) (n' sn' : Nat) (S' : BS) : Prop :=
  if iw B P 0 = true then n' = n ∧ sn' = sn ∧ ∃ g, S' = (S.1, S.2.1, S.2.2.1, S.2.2.2.1, S.2.2.2.2.1, S.2.2.2.2.2.1, S.2.2.2.2.2.2.1, g, S.2.2.2.2.2.2.2.2) ∧ ∀ k, g k = if k = soV B N (pst B N P) * 8 + soV B N (soP B N (pst B N P)) then nI (soP B N (soP B N (pst B N P))).2.2.2.1 else bGa S k
  else if iw B P 3 = true then n' = n + 1 ∧ sn' = sn ∧ n < 10 ∧ Add S S' n (nI (soV B N (pst B N P))) (nI (soP B N (pst B N P)).2.2.2.1) (nI (nmP B N (soP B N (pst B N P)) 0 999).2.2.2.1) (nI (nmP B N (nmP B N (soP B N (pst B N P)) 0 999) (soP B N (pst B N P)).2.2.2.1 1999).2.2.2.1)
  else if iw B P 4 = true then n' = n ∧ sn' = sn + 1 ∧ sn < 4 ∧ ∃ g g1 g2, S' = (g, S.2.1, S.2.2.1, S.2.2.2.1, S.2.2.2.2.1, S.2.2.2.2.2.1, S.2.2.2.2.2.2.1, S.2.2.2.2.2.2.2.1, g1, g2, S.2.2.2.2.2.2.2.2.2.2) ∧ (∀ j, j ≠ 8 → g j = bF S j) ∧ g 8 = nI (sn + 1) ∧ (∀ k, g1 k = if k = sn then nI (pst B N P).2.2.2.1 else bSF S k) ∧ ∀ k, g2 k = if k = sn then nI (nmP B N (pst B N P) 0 1998).2.2.2.1 else bST S k
  else if iw B P 5 = true then n' = n ∧ sn' = sn ∧ ∃ g, S' = (g, S.2) ∧ (∀ j, j ≠ 11 → g j = bF S j) ∧ g 11 = nI (pst B N P).2.2.2.1
  else n' = n ∧ sn' = sn ∧ ∃ g, S' = (g, S.2) ∧ (∀ j, j ≠ 12 → g j = bF S j) ∧ g 12 = nI (pst B N P).2.2.2.1
section LINE
variable {B : Nat → Int32} {N : Nat} {P : PS} {n sn n' sn' dn : Nat} {S S' : BS}
theorem lnP_0 (h : (lnP B N P n sn).2.2.2.2.1 = 0) : (lnB B N P n sn).2.2.2.2.1 = 0 ∧ (lnB B N P n sn).1 = 2 := by
  have h := pst_ft.mp h
  by_cases q : (lnB B N P n sn).1 = 2
  · rw [if_pos q] at h
    exact ⟨h, q⟩
  · rw [if_neg q] at h
    by_cases f : (lnB B N P n sn).2.2.2.2.1 = 0
    · rw [rfs_f f] at h; cases h
    · rw [rfs_n f] at h; exact absurd h f
theorem okp_lnB (h : OKP B N P) : OKP B N (lnB B N P n sn) := by
  unfold lnB
  repeat' split
  · exact (h.pst.so.so).nm
  · exact h.rfs (by decide)
  · exact ((h.pst.so.nm).nm).nm
  · exact h.rfs (by decide)
  · exact (h.pst.nm).nm
  · exact h.pst.nm
  · exact h.pst.nm
  · exact h.rfs (by decide)
theorem OKP.lnB (h : OKP B N P) : OKP B N (lnB B N P n sn) := okp_lnB h
theorem okp_lnP (h : OKP B N P) : OKP B N (lnP B N P n sn) := by
  unfold lnP
  refine OKP.pst ?_
  split
  · exact h.lnB
  · exact h.lnB.rfs (by decide)
theorem OKP.lnP (h : OKP B N P) : OKP B N (lnP B N P n sn) := okp_lnP h
theorem LE_VL (hV : VL S n sn dn) (h0 : (lnB B N P n sn).2.2.2.2.1 = 0) (h : LE B N P n sn S n' sn' S') : VL S' n' sn' dn := by
  unfold lnB at h0
  unfold LE at h
  have hn := hV.1.1.1.2
  split at h
  · rename_i q
    rw [if_pos q] at h0
    obtain ⟨rfl, rfl, g, rfl, hg⟩ := h
    refine hV.ga fun k hk => ?_
    rw [hg]
    have b := (nmP_0 h0).2.2.2
    split
    · rw [nIi (by omega)]; omega
    · exact hV.1.2.2.1.2.2.1 k hk
  · rename_i q0
    rw [if_neg q0] at h0
    split at h
    · rename_i q
      rw [if_pos q] at h0
      obtain ⟨rfl, rfl, h10, hA⟩ := h
      rw [if_neg (by omega)] at h0
      obtain ⟨a1, a2, a3, a4⟩ := nmP_0 h0
      obtain ⟨b1, b2, b3, b4⟩ := nmP_0 a1
      obtain ⟨c1, c2, c3, c4⟩ := nmP_0 b1
      obtain ⟨d1, d2⟩ := soP_0 c1
      refine ⟨hV.1.add h10 d2 (by omega) a4 hA, fun k hk => ?_⟩
      by_cases ek : k = n
      · rw [ek, hA.2.1.2.1, hA.2.1.2.2.1]
        exact (nI_leI (by omega) (by omega)).mpr b3
      · have := hA.2.2.1 k (by omega)
        rw [this.2.1, this.2.2.1]
        exact hV.2 k (by omega)
    · rename_i q3
      rw [if_neg q3] at h0
      split at h
      · rename_i q
        rw [if_pos q] at h0
        obtain ⟨rfl, rfl, h4, g, g1, g2, rfl, e1, e2, e3, e4⟩ := h
        rw [if_neg (by omega)] at h0
        obtain ⟨a1, a2, a3, a4⟩ := nmP_0 h0
        refine hV.sp e1 e2 (by omega) fun k hk => ?_
        rw [e4]
        split
        · rw [nIi (by omega)]; omega
        · exact hV.1.2.2.1.2.2.2.1 k (by omega)
      · rename_i q4
        rw [if_neg q4] at h0
        split at h
        · rename_i q
          rw [if_pos q] at h0
          obtain ⟨rfl, rfl, g, rfl, e1, e2⟩ := h
          exact hV.fz (fun j j1 _ => e1 j j1) (nmP_0 h0).2.2.2 e2
        · obtain ⟨rfl, rfl, g, rfl, e1, e2⟩ := h
          obtain ⟨sh, s1, s2⟩ := hV.1.2.2.2.2
          exact hV.fz (fun j _ j2 => e1 j j2) s1 ((e1 11 (by decide)).trans s2)
end LINE
section LINEC
variable {I : Nat → Nat → Int32} {J : Nat → Nat → Int64} {L : hL} {x N n sn dn : Nat} {B : Nat → Int32} {P : PS} {t : tl} {F : Int32 → hp → Prop} {G : hp → Prop} {X : Nat → hp → Prop} {d : Nat}
abbrev pB (x : Nat) : Nat → Prop := fun a => a = x + 57 ∨ x + 28 + 2 ≤ a ∧ a ≤ x + 28 + 2 + 12
--facts LK_ hK, LB_ hK.p.b
theorem sp_line (hK : LK L x) (hW : WS L I x) (hB : ∀ j, j < N → I (x + 56) j = B j) (hN : N ≤ 500) (hC : CR I x N P) (hP : OKP B N P) (hV : VL (bd I (x + 28 + 2)) n sn dn) (k : ∀ I2, same I I2 (pB x) → CR I2 x N (lnP B N P n sn) → ((lnP B N P n sn).2.2.2.2.1 = 0 → ∃ n' sn', LE B N P n sn (bd I (x + 28 + 2)) n' sn' (bd I2 (x + 28 + 2))) → G (L, I2, J, t)) : cal (d + 6) 67 [.ref (x + 57)] (L, I, J, t) (kV G X) := by
  have hn := hV.1.1.1.2
  have hs4 := hV.1.1.2.1.2
  have n0 : I (x + 28 + 2) 0 = nI n := hV.1.1.1.1
  have n8 : I (x + 28 + 2) 8 = nI sn := hV.1.1.2.1.1
  have hW' : ∀ I2, same I I2 (pB x) → WS L I2 x := fun I2 h => hW.fr fun a ha => h a (by omega)
  have hB' : ∀ I2, same I I2 (pB x) → ∀ j, j < N → I2 (x + 56) j = B j := fun I2 h j hj => by rw [h _ (by omega)]; exact hB j hj
  -- behind the line's words
  have semi : ∀ I2, same I I2 (pB x) → CR I2 x N (lnB B N P n sn) → ((lnB B N P n sn).2.2.2.2.1 = 0 → ∃ n' sn', LE B N P n sn (bd I (x + 28 + 2)) n' sn' (bd I2 (x + 28 + 2))) → Wp (cal (d + 5)) kc_67 [] (kV G X) (112, [some (.ref (x + 57))], [], (L, I2, J, t)) := by
    intro I2 hs2 hC2 hl
    have hO := hP.lnB (n := n) (sn := sn)
    have p3 := hO.1.2.2.1
    have fin : ∀ b : Bool, b = decide ((lnB B N P n sn).1 = 2) → cal (d + 5) 71 [.ref (x + 57), .int (bI b)] (L, I2, J, t) (kV (fun h2 => Wp (cal (d + 5)) kc_67 [] (kV G X) (129, [some (.ref (x + 57))], [], h2)) (fun e h2 => kV G X (.inr e) h2)) := by
      intro b hb
      refine sp_stepOver (b := b) hK (hB' I2 hs2) hN hC2 hO fun I3 hs3 hC3 => t67_129 ?_
      have eq : pst B N (if b = true then lnB B N P n sn else rfs (lnB B N P n sn) 1) = lnP B N P n sn := by
        unfold lnP
        rw [hb]
        by_cases w : (lnB B N P n sn).1 = 2
        · rw [decide_eq_true w, if_pos rfl, if_pos w]
        · rw [decide_eq_false w, if_neg (by decide), if_neg w]
      rw [eq] at hC3
      simp (disch := omega) only [vpT, nI_leI, nI_ltI, nI_eq, nleT, nleF, nltT, nltF, neqT, neqF, nI_add, pk_mul, subN, divN, nI_clamp, mI1, wrH, wrM1, wrM2, wrowH, wrowM, bI0, bI1, kIi, kVi, kRi, kLi, kIx, kVx, Option.some.injEq, exists_eq_left', true_and, and_true, true_implies, false_implies, implies_true, not_true_eq_false, not_false_eq_true, true_or, or_true, false_or, or_false, forall_eq, iteT, iteF, LK_ hK, LB_ hK.p.b]
      refine k I3 (fun a ha => by rw [hs3 a (by omega), hs2 a ha]) hC3 fun w => ?_
      obtain ⟨n', sn', g⟩ := hl (lnP_0 w).1
      refine ⟨n', sn', ?_⟩
      rw [hs3.bd fun a r1 r2 => by omega]
      exact g
    refine t67_112 ?_
    have c4 := hC2.2.2.1
    by_cases w : (lnB B N P n sn).1 = 2
    · rw [w] at c4
      simp (disch := omega) only [vpT, nI_leI, nI_ltI, nI_eq, nleT, nleF, nltT, nltF, neqT, neqF, nI_add, pk_mul, subN, divN, nI_clamp, mI1, wrH, wrM1, wrM2, wrowH, wrowM, bI0, bI1, kIi, kVi, kRi, kLi, kIx, kVx, Option.some.injEq, exists_eq_left', true_and, and_true, true_implies, false_implies, implies_true, not_true_eq_false, not_false_eq_true, true_or, or_true, false_or, or_false, forall_eq, iteT, iteF, LK_ hK, LB_ hK.p.b, c4]
      exact fin true (by rw [decide_eq_true w])
    · simp (disch := omega) only [vpT, nI_leI, nI_ltI, nI_eq, nleT, nleF, nltT, nltF, neqT, neqF, nI_add, pk_mul, subN, divN, nI_clamp, mI1, wrH, wrM1, wrM2, wrowH, wrowM, bI0, bI1, kIi, kVi, kRi, kLi, kIx, kVx, Option.some.injEq, exists_eq_left', true_and, and_true, true_implies, false_implies, implies_true, not_true_eq_false, not_false_eq_true, true_or, or_true, false_or, or_false, forall_eq, iteT, iteF, LK_ hK, LB_ hK.p.b, c4]
      exact fin false (by rw [decide_eq_false w])
  refine e67 (t67_0 ?_)
  simp (disch := omega) only [vpT, nI_leI, nI_ltI, nI_eq, nleT, nleF, nltT, nltF, neqT, neqF, nI_add, pk_mul, subN, divN, nI_clamp, mI1, wrH, wrM1, wrM2, wrowH, wrowM, bI0, bI1, kIi, kVi, kRi, kLi, kIx, kVx, Option.some.injEq, exists_eq_left', true_and, and_true, true_implies, false_implies, implies_true, not_true_eq_false, not_false_eq_true, true_or, or_true, false_or, or_false, forall_eq, iteT, iteF, LK_ hK, LB_ hK.p.b]
  refine sp_isWord hK hW hB hN hC hP (by decide) (t67_6 ?_)
  cases h0 : iw B P 0 with
  | true =>
    have eB : lnB B N P n sn = nmP B N (soP B N (soP B N (pst B N P))) 0 99 := by unfold lnB; rw [if_pos h0]
    simp (disch := omega) only [vpT, nI_leI, nI_ltI, nI_eq, nleT, nleF, nltT, nltF, neqT, neqF, nI_add, pk_mul, subN, divN, nI_clamp, mI1, wrH, wrM1, wrM2, wrowH, wrowM, bI0, bI1, kIi, kVi, kRi, kLi, kIx, kVx, Option.some.injEq, exists_eq_left', true_and, and_true, true_implies, false_implies, implies_true, not_true_eq_false, not_false_eq_true, true_or, or_true, false_or, or_false, forall_eq, iteT, iteF, LK_ hK, LB_ hK.p.b, bI_t]
    refine e69 (t69_0 ?_)
    simp (disch := omega) only [vpT, nI_leI, nI_ltI, nI_eq, nleT, nleF, nltT, nltF, neqT, neqF, nI_add, pk_mul, subN, divN, nI_clamp, mI1, wrH, wrM1, wrM2, wrowH, wrowM, bI0, bI1, kIi, kVi, kRi, kLi, kIx, kVx, Option.some.injEq, exists_eq_left', true_and, and_true, true_implies, false_implies, implies_true, not_true_eq_false, not_false_eq_true, true_or, or_true, false_or, or_false, forall_eq, iteT, iteF, LK_ hK, LB_ hK.p.b]
    refine sp_step hK hB hN hC hP.1 fun I2 hs2 hC2 => t69_4 ?_
    have u2 : same I I2 (pB x) := hs2.up fun a h => Or.inl h
    simp (disch := omega) only [vpT, nI_leI, nI_ltI, nI_eq, nleT, nleF, nltT, nltF, neqT, neqF, nI_add, pk_mul, subN, divN, nI_clamp, mI1, wrH, wrM1, wrM2, wrowH, wrowM, bI0, bI1, kIi, kVi, kRi, kLi, kIx, kVx, Option.some.injEq, exists_eq_left', true_and, and_true, true_implies, false_implies, implies_true, not_true_eq_false, not_false_eq_true, true_or, or_true, false_or, or_false, forall_eq, iteT, iteF, LK_ hK, LB_ hK.p.b]
    refine sp_sort hK (hW' I2 u2) (hB' I2 u2) hN hC2 hP.pst fun I3 r3 hs3 hC3 l3 e3 => t69_8 ?_
    have u3 : same I I3 (pB x) := u2.tr (hs3.up fun a h => Or.inl h)
    simp (disch := omega) only [vpT, nI_leI, nI_ltI, nI_eq, nleT, nleF, nltT, nltF, neqT, neqF, nI_add, pk_mul, subN, divN, nI_clamp, mI1, wrH, wrM1, wrM2, wrowH, wrowM, bI0, bI1, kIi, kVi, kRi, kLi, kIx, kVx, Option.some.injEq, exists_eq_left', true_and, and_true, true_implies, false_implies, implies_true, not_true_eq_false, not_false_eq_true, true_or, or_true, false_or, or_false, forall_eq, iteT, iteF, LK_ hK, LB_ hK.p.b]
    refine sp_sort hK (hW' I3 u3) (hB' I3 u3) hN hC3 hP.pst.so fun I4 r4 hs4' hC4 l4 e4 => t69_13 ?_
    have u4 : same I I4 (pB x) := u3.tr (hs4'.up fun a h => Or.inl h)
    simp (disch := omega) only [vpT, nI_leI, nI_ltI, nI_eq, nleT, nleF, nltT, nltF, neqT, neqF, nI_add, pk_mul, subN, divN, nI_clamp, mI1, wrH, wrM1, wrM2, wrowH, wrowM, bI0, bI1, kIi, kVi, kRi, kLi, kIx, kVx, Option.some.injEq, exists_eq_left', true_and, and_true, true_implies, false_implies, implies_true, not_true_eq_false, not_false_eq_true, true_or, or_true, false_or, or_false, forall_eq, iteT, iteF, LK_ hK, LB_ hK.p.b]
    refine sp_number (lo := 0) (hi := 99) hK (hB' I4 u4) hN hC4 hP.pst.so.so (by decide) (by decide) fun I5 r5 hs5 hC5 e5 => t69_34 ?_
    have u5 : same I I5 (pB x) := u4.tr (hs5.up fun a h => Or.inl h)
    simp (disch := omega) only [vpT, nI_leI, nI_ltI, nI_eq, nleT, nleF, nltT, nltF, neqT, neqF, nI_add, pk_mul, subN, divN, nI_clamp, mI1, wrH, wrM1, wrM2, wrowH, wrowM, bI0, bI1, kIi, kVi, kRi, kLi, kIx, kVx, Option.some.injEq, exists_eq_left', true_and, and_true, true_implies, false_implies, implies_true, not_true_eq_false, not_false_eq_true, true_or, or_true, false_or, or_false, forall_eq, iteT, iteF, LK_ hK, LB_ hK.p.b]
    refine t67_13 ?_
    have eq5 : ∀ a, x + 28 + 2 ≤ a → a ≤ x + 28 + 2 + 12 → I5 a = I a := fun a h1 h2 => by rw [hs5 a (by omega), hs4' a (by omega), hs3 a (by omega), hs2 a (by omega)]
    refine semi _ (fun a ha => by rw [wrM1 (by omega)]; exact u5 a ha) ?_ fun w => ⟨n, sn, ?_⟩
    · rw [eB]
      obtain ⟨c2, c3, c4, c5, c6, c7, c8⟩ := hC5
      exact ⟨by rw [wrM1 (by omega)]; exact c2, by rw [wrM1 (by omega)]; exact c3, by rw [wrM1 (by omega)]; exact c4, by rw [wrM1 (by omega)]; exact c5, fun q => by rw [wrM1 (by omega)]; exact c6 q, by rw [wrM1 (by omega)]; exact c7, fun q => by rw [wrM1 (by omega)]; exact c8 q⟩
    · rw [eB] at w
      obtain ⟨a1, a2, a3, a4⟩ := nmP_0 w
      obtain ⟨b1, b2⟩ := soP_0 a1
      have e3 := e3 b1
      have e4 := e4 a1
      rw [if_pos w] at e5
      unfold LE
      rw [if_pos h0]
      refine ⟨rfl, rfl, wr I5 (x + 28 + 2 + 7) (r3 * 8 + r4) (nI r5) (x + 28 + 2 + 7), ?_, fun k => ?_⟩
      · have er : ∀ a, x + 28 + 2 ≤ a → a ≤ x + 28 + 2 + 12 → a ≠ x + 28 + 2 + 7 → wr I5 (x + 28 + 2 + 7) (r3 * 8 + r4) (nI r5) a = I a := fun a h1 h2 h3 => by rw [wrM1 h3]; exact eq5 a h1 h2
        generalize wr I5 (x + 28 + 2 + 7) (r3 * 8 + r4) (nI r5) = I6 at er
        simp (disch := omega) only [bd, er]
      · rw [← e3, ← e4]
        by_cases q : k = r3 * 8 + r4
        · rw [if_pos q, wrH rfl q, e5]
        · rw [if_neg q, wrM2 q, eq5 _ (by omega) (by omega)]
          rfl
  | false =>
  simp (disch := omega) only [vpT, nI_leI, nI_ltI, nI_eq, nleT, nleF, nltT, nltF, neqT, neqF, nI_add, pk_mul, subN, divN, nI_clamp, mI1, wrH, wrM1, wrM2, wrowH, wrowM, bI0, bI1, kIi, kVi, kRi, kLi, kIx, kVx, Option.some.injEq, exists_eq_left', true_and, and_true, true_implies, false_implies, implies_true, not_true_eq_false, not_false_eq_true, true_or, or_true, false_or, or_false, forall_eq, iteT, iteF, LK_ hK, LB_ hK.p.b, bI_f]
  refine sp_isWord hK hW hB hN hC hP (by decide) (t67_22 ?_)
  cases h3 : iw B P 3 with
  | true =>
    simp (disch := omega) only [vpT, nI_leI, nI_ltI, nI_eq, nleT, nleF, nltT, nltF, neqT, neqF, nI_add, pk_mul, subN, divN, nI_clamp, mI1, wrH, wrM1, wrM2, wrowH, wrowM, bI0, bI1, kIi, kVi, kRi, kLi, kIx, kVx, Option.some.injEq, exists_eq_left', true_and, and_true, true_implies, false_implies, implies_true, not_true_eq_false, not_false_eq_true, true_or, or_true, false_or, or_false, forall_eq, iteT, iteF, LK_ hK, LB_ hK.p.b, bI_t]
    refine e75 (t75_0 ?_)
    simp (disch := omega) only [vpT, nI_leI, nI_ltI, nI_eq, nleT, nleF, nltT, nltF, neqT, neqF, nI_add, pk_mul, subN, divN, nI_clamp, mI1, wrH, wrM1, wrM2, wrowH, wrowM, bI0, bI1, kIi, kVi, kRi, kLi, kIx, kVx, Option.some.injEq, exists_eq_left', true_and, and_true, true_implies, false_implies, implies_true, not_true_eq_false, not_false_eq_true, true_or, or_true, false_or, or_false, forall_eq, iteT, iteF, LK_ hK, LB_ hK.p.b]
    refine sp_isFull hK.p.b n0 hn (t75_7 ?_)
    by_cases n10 : n = 10
    · have eB : lnB B N P n sn = rfs P 3 := by unfold lnB; rw [if_neg (by rw [h0]; decide), if_pos h3, if_pos n10]
      rw [decide_eq_true n10, bI_t]
      simp (disch := omega) only [vpT, nI_leI, nI_ltI, nI_eq, nleT, nleF, nltT, nltF, neqT, neqF, nI_add, pk_mul, subN, divN, nI_clamp, mI1, wrH, wrM1, wrM2, wrowH, wrowM, bI0, bI1, kIi, kVi, kRi, kLi, kIx, kVx, Option.some.injEq, exists_eq_left', true_and, and_true, true_implies, false_implies, implies_true, not_true_eq_false, not_false_eq_true, true_or, or_true, false_or, or_false, forall_eq, iteT, iteF, LK_ hK, LB_ hK.p.b]
      refine sp_refuse hK hC hP fun I2 hs2 hC2 => t75_15 ?_
      simp (disch := omega) only [vpT, nI_leI, nI_ltI, nI_eq, nleT, nleF, nltT, nltF, neqT, neqF, nI_add, pk_mul, subN, divN, nI_clamp, mI1, wrH, wrM1, wrM2, wrowH, wrowM, bI0, bI1, kIi, kVi, kRi, kLi, kIx, kVx, Option.some.injEq, exists_eq_left', true_and, and_true, true_implies, false_implies, implies_true, not_true_eq_false, not_false_eq_true, true_or, or_true, false_or, or_false, forall_eq, iteT, iteF, LK_ hK, LB_ hK.p.b]
      refine t67_29 (semi I2 (hs2.up fun a h => Or.inl h) (by rw [eB]; exact hC2) fun w => ?_)
      rw [eB] at w
      by_cases f : P.2.2.2.2.1 = 0
      · rw [rfs_f f] at w; cases w
      · rw [rfs_n f] at w; exact absurd w f
    · have eB : lnB B N P n sn = nmP B N (nmP B N (nmP B N (soP B N (pst B N P)) 0 999) (soP B N (pst B N P)).2.2.2.1 1999) 0 20 := by unfold lnB; rw [if_neg (by rw [h0]; decide), if_pos h3, if_neg n10]
      rw [decide_eq_false n10, bI_f]
      simp (disch := omega) only [vpT, nI_leI, nI_ltI, nI_eq, nleT, nleF, nltT, nltF, neqT, neqF, nI_add, pk_mul, subN, divN, nI_clamp, mI1, wrH, wrM1, wrM2, wrowH, wrowM, bI0, bI1, kIi, kVi, kRi, kLi, kIx, kVx, Option.some.injEq, exists_eq_left', true_and, and_true, true_implies, false_implies, implies_true, not_true_eq_false, not_false_eq_true, true_or, or_true, false_or, or_false, forall_eq, iteT, iteF, LK_ hK, LB_ hK.p.b]
      refine sp_step hK hB hN hC hP.1 fun I2 hs2 hC2 => t75_20 ?_
      have u2 : same I I2 (pB x) := hs2.up fun a h => Or.inl h
      simp (disch := omega) only [vpT, nI_leI, nI_ltI, nI_eq, nleT, nleF, nltT, nltF, neqT, neqF, nI_add, pk_mul, subN, divN, nI_clamp, mI1, wrH, wrM1, wrM2, wrowH, wrowM, bI0, bI1, kIi, kVi, kRi, kLi, kIx, kVx, Option.some.injEq, exists_eq_left', true_and, and_true, true_implies, false_implies, implies_true, not_true_eq_false, not_false_eq_true, true_or, or_true, false_or, or_false, forall_eq, iteT, iteF, LK_ hK, LB_ hK.p.b]
      refine sp_sort hK (hW' I2 u2) (hB' I2 u2) hN hC2 hP.pst fun I3 r3 hs3 hC3 l3 e3 => t75_24 ?_
      have u3 : same I I3 (pB x) := u2.tr (hs3.up fun a h => Or.inl h)
      simp (disch := omega) only [vpT, nI_leI, nI_ltI, nI_eq, nleT, nleF, nltT, nltF, neqT, neqF, nI_add, pk_mul, subN, divN, nI_clamp, mI1, wrH, wrM1, wrM2, wrowH, wrowM, bI0, bI1, kIi, kVi, kRi, kLi, kIx, kVx, Option.some.injEq, exists_eq_left', true_and, and_true, true_implies, false_implies, implies_true, not_true_eq_false, not_false_eq_true, true_or, or_true, false_or, or_false, forall_eq, iteT, iteF, LK_ hK, LB_ hK.p.b]
      refine sp_number (lo := 0) (hi := 999) hK (hB' I3 u3) hN hC3 hP.pst.so (by decide) (by decide) fun I4 r4 hs4' hC4 e4 => t75_33 ?_
      have u4 : same I I4 (pB x) := u3.tr (hs4'.up fun a h => Or.inl h)
      have l4 : r4 ≤ 999 := by
        rw [e4]
        split
        · rename_i q; exact (nmP_0 q).2.2.2
        · decide
      have enm : nmP B N (nmP B N (soP B N (pst B N P)) 0 999) r4 1999 = nmP B N (nmP B N (soP B N (pst B N P)) 0 999) (soP B N (pst B N P)).2.2.2.1 1999 := by
        by_cases f : (nmP B N (soP B N (pst B N P)) 0 999).2.2.2.2.1 = 0
        · rw [e4, if_pos f]
        · rw [nmP_n f, nmP_n f]
      simp (disch := omega) only [vpT, nI_leI, nI_ltI, nI_eq, nleT, nleF, nltT, nltF, neqT, neqF, nI_add, pk_mul, subN, divN, nI_clamp, mI1, wrH, wrM1, wrM2, wrowH, wrowM, bI0, bI1, kIi, kVi, kRi, kLi, kIx, kVx, Option.some.injEq, exists_eq_left', true_and, and_true, true_implies, false_implies, implies_true, not_true_eq_false, not_false_eq_true, true_or, or_true, false_or, or_false, forall_eq, iteT, iteF, LK_ hK, LB_ hK.p.b]
      refine sp_number (lo := r4) (hi := 1999) hK (hB' I4 u4) hN hC4 hP.pst.so.nm (by omega) (by decide) fun I5 r5 hs5 hC5 e5 => t75_42 ?_
      rw [enm] at hC5 e5
      have u5 : same I I5 (pB x) := u4.tr (hs5.up fun a h => Or.inl h)
      simp (disch := omega) only [vpT, nI_leI, nI_ltI, nI_eq, nleT, nleF, nltT, nltF, neqT, neqF, nI_add, pk_mul, subN, divN, nI_clamp, mI1, wrH, wrM1, wrM2, wrowH, wrowM, bI0, bI1, kIi, kVi, kRi, kLi, kIx, kVx, Option.some.injEq, exists_eq_left', true_and, and_true, true_implies, false_implies, implies_true, not_true_eq_false, not_false_eq_true, true_or, or_true, false_or, or_false, forall_eq, iteT, iteF, LK_ hK, LB_ hK.p.b]
      refine sp_number (lo := 0) (hi := 20) hK (hB' I5 u5) hN hC5 hP.pst.so.nm.nm (by decide) (by decide) fun I6 r6 hs6 hC6 e6 => t75_50 ?_
      have u6 : same I I6 (pB x) := u5.tr (hs6.up fun a h => Or.inl h)
      have eq6 : bd I6 (x + 28 + 2) = bd I (x + 28 + 2) := bd_same fun a h1 h2 => by rw [hs6 a (by omega), hs5 a (by omega), hs4' a (by omega), hs3 a (by omega), hs2 a (by omega)]
      simp (disch := omega) only [vpT, nI_leI, nI_ltI, nI_eq, nleT, nleF, nltT, nltF, neqT, neqF, nI_add, pk_mul, subN, divN, nI_clamp, mI1, wrH, wrM1, wrM2, wrowH, wrowM, bI0, bI1, kIi, kVi, kRi, kLi, kIx, kVx, Option.some.injEq, exists_eq_left', true_and, and_true, true_implies, false_implies, implies_true, not_true_eq_false, not_false_eq_true, true_or, or_true, false_or, or_false, forall_eq, iteT, iteF, LK_ hK, LB_ hK.p.b]
      refine sp_addCraft (n := n) hK.p.b (by have : bF (bd I6 (x + 28 + 2)) 0 = nI n := by rw [eq6]; exact n0
                                             exact this) (by omega) fun I7 hs7 hA7 => t75_64 ?_
      rw [eq6] at hA7
      simp (disch := omega) only [vpT, nI_leI, nI_ltI, nI_eq, nleT, nleF, nltT, nltF, neqT, neqF, nI_add, pk_mul, subN, divN, nI_clamp, mI1, wrH, wrM1, wrM2, wrowH, wrowM, bI0, bI1, kIi, kVi, kRi, kLi, kIx, kVx, Option.some.injEq, exists_eq_left', true_and, and_true, true_implies, false_implies, implies_true, not_true_eq_false, not_false_eq_true, true_or, or_true, false_or, or_false, forall_eq, iteT, iteF, LK_ hK, LB_ hK.p.b]
      refine t67_29 (semi I7 (fun a ha => by rw [hs7 a (by omega), u6 a ha]) ?_ fun w => ⟨n + 1, sn, ?_⟩)
      · rw [eB]
        obtain ⟨c2, c3, c4, c5, c6, c7, c8⟩ := hC6
        have e57 : I7 (x + 57) = I6 (x + 57) := hs7 _ (by omega)
        unfold CR
        rw [e57]
        exact ⟨c2, c3, c4, c5, c6, c7, c8⟩
      · rw [eB] at w
        obtain ⟨a1, a2, a3, a4⟩ := nmP_0 w
        obtain ⟨b1, b2, b3, b4⟩ := nmP_0 a1
        obtain ⟨c1, c2, c3, c4⟩ := nmP_0 b1
        rw [if_pos b1] at e4
        rw [if_pos a1] at e5
        rw [if_pos w] at e6
        unfold LE
        rw [if_neg (by rw [h0]; decide), if_pos h3]
        refine ⟨rfl, rfl, by omega, ?_⟩
        rw [← e6, ← e5, ← e3 c1, ← e4]
        exact hA7
  | false =>
  simp (disch := omega) only [vpT, nI_leI, nI_ltI, nI_eq, nleT, nleF, nltT, nltF, neqT, neqF, nI_add, pk_mul, subN, divN, nI_clamp, mI1, wrH, wrM1, wrM2, wrowH, wrowM, bI0, bI1, kIi, kVi, kRi, kLi, kIx, kVx, Option.some.injEq, exists_eq_left', true_and, and_true, true_implies, false_implies, implies_true, not_true_eq_false, not_false_eq_true, true_or, or_true, false_or, or_false, forall_eq, iteT, iteF, LK_ hK, LB_ hK.p.b, bI_f]
  refine sp_isWord hK hW hB hN hC hP (by decide) (t67_38 ?_)
  cases h4 : iw B P 4 with
  | true =>
    simp (disch := omega) only [vpT, nI_leI, nI_ltI, nI_eq, nleT, nleF, nltT, nltF, neqT, neqF, nI_add, pk_mul, subN, divN, nI_clamp, mI1, wrH, wrM1, wrM2, wrowH, wrowM, bI0, bI1, kIi, kVi, kRi, kLi, kIx, kVx, Option.some.injEq, exists_eq_left', true_and, and_true, true_implies, false_implies, implies_true, not_true_eq_false, not_false_eq_true, true_or, or_true, false_or, or_false, forall_eq, iteT, iteF, LK_ hK, LB_ hK.p.b, bI_t]
    refine e78 (t78_0 ?_)
    by_cases s4 : sn = 4
    · have eB : lnB B N P n sn = rfs P 3 := by unfold lnB; rw [if_neg (by rw [h0]; decide), if_neg (by rw [h3]; decide), if_pos h4, if_pos s4]
      simp (disch := omega) only [vpT, nI_leI, nI_ltI, nI_eq, nleT, nleF, nltT, nltF, neqT, neqF, nI_add, pk_mul, subN, divN, nI_clamp, mI1, wrH, wrM1, wrM2, wrowH, wrowM, bI0, bI1, kIi, kVi, kRi, kLi, kIx, kVx, Option.some.injEq, exists_eq_left', true_and, and_true, true_implies, false_implies, implies_true, not_true_eq_false, not_false_eq_true, true_or, or_true, false_or, or_false, forall_eq, iteT, iteF, LK_ hK, LB_ hK.p.b, n8]
      refine sp_refuse hK hC hP fun I2 hs2 hC2 => t78_16 ?_
      simp (disch := omega) only [vpT, nI_leI, nI_ltI, nI_eq, nleT, nleF, nltT, nltF, neqT, neqF, nI_add, pk_mul, subN, divN, nI_clamp, mI1, wrH, wrM1, wrM2, wrowH, wrowM, bI0, bI1, kIi, kVi, kRi, kLi, kIx, kVx, Option.some.injEq, exists_eq_left', true_and, and_true, true_implies, false_implies, implies_true, not_true_eq_false, not_false_eq_true, true_or, or_true, false_or, or_false, forall_eq, iteT, iteF, LK_ hK, LB_ hK.p.b]
      refine t67_45 (semi I2 (hs2.up fun a h => Or.inl h) (by rw [eB]; exact hC2) fun w => ?_)
      rw [eB] at w
      by_cases f : P.2.2.2.2.1 = 0
      · rw [rfs_f f] at w; cases w
      · rw [rfs_n f] at w; exact absurd w f
    · have eB : lnB B N P n sn = nmP B N (nmP B N (pst B N P) 0 1998) ((pst B N P).2.2.2.1 + 1) 1999 := by unfold lnB; rw [if_neg (by rw [h0]; decide), if_neg (by rw [h3]; decide), if_pos h4, if_neg s4]
      simp (disch := omega) only [vpT, nI_leI, nI_ltI, nI_eq, nleT, nleF, nltT, nltF, neqT, neqF, nI_add, pk_mul, subN, divN, nI_clamp, mI1, wrH, wrM1, wrM2, wrowH, wrowM, bI0, bI1, kIi, kVi, kRi, kLi, kIx, kVx, Option.some.injEq, exists_eq_left', true_and, and_true, true_implies, false_implies, implies_true, not_true_eq_false, not_false_eq_true, true_or, or_true, false_or, or_false, forall_eq, iteT, iteF, LK_ hK, LB_ hK.p.b, n8]
      refine sp_step hK hB hN hC hP.1 fun I2 hs2 hC2 => t78_21 ?_
      have u2 : same I I2 (pB x) := hs2.up fun a h => Or.inl h
      simp (disch := omega) only [vpT, nI_leI, nI_ltI, nI_eq, nleT, nleF, nltT, nltF, neqT, neqF, nI_add, pk_mul, subN, divN, nI_clamp, mI1, wrH, wrM1, wrM2, wrowH, wrowM, bI0, bI1, kIi, kVi, kRi, kLi, kIx, kVx, Option.some.injEq, exists_eq_left', true_and, and_true, true_implies, false_implies, implies_true, not_true_eq_false, not_false_eq_true, true_or, or_true, false_or, or_false, forall_eq, iteT, iteF, LK_ hK, LB_ hK.p.b]
      refine sp_number (lo := 0) (hi := 1998) hK (hB' I2 u2) hN hC2 hP.pst (by decide) (by decide) fun I3 r3 hs3 hC3 e3 => t78_29 ?_
      have u3 : same I I3 (pB x) := u2.tr (hs3.up fun a h => Or.inl h)
      have l3 : r3 ≤ 1998 := by
        rw [e3]
        split
        · rename_i q; exact (nmP_0 q).2.2.2
        · decide
      have enm : nmP B N (nmP B N (pst B N P) 0 1998) (r3 + 1) 1999 = nmP B N (nmP B N (pst B N P) 0 1998) ((pst B N P).2.2.2.1 + 1) 1999 := by
        by_cases f : (nmP B N (pst B N P) 0 1998).2.2.2.2.1 = 0
        · rw [e3, if_pos f]
        · rw [nmP_n f, nmP_n f]
      simp (disch := omega) only [vpT, nI_leI, nI_ltI, nI_eq, nleT, nleF, nltT, nltF, neqT, neqF, nI_add, pk_mul, subN, divN, nI_clamp, mI1, wrH, wrM1, wrM2, wrowH, wrowM, bI0, bI1, kIi, kVi, kRi, kLi, kIx, kVx, Option.some.injEq, exists_eq_left', true_and, and_true, true_implies, false_implies, implies_true, not_true_eq_false, not_false_eq_true, true_or, or_true, false_or, or_false, forall_eq, iteT, iteF, LK_ hK, LB_ hK.p.b]
      refine sp_number (lo := r3 + 1) (hi := 1999) hK (hB' I3 u3) hN hC3 hP.pst.nm (by omega) (by decide) fun I4 r4 hs4' hC4 e4 => t78_40 ?_
      rw [enm] at hC4 e4
      have u4 : same I I4 (pB x) := u3.tr (hs4'.up fun a h => Or.inl h)
      have eq4 : ∀ a, x + 28 + 2 ≤ a → a ≤ x + 28 + 2 + 12 → I4 a = I a := fun a h1 h2 => by rw [hs4' a (by omega), hs3 a (by omega), hs2 a (by omega)]
      simp (disch := omega) only [vpT, nI_leI, nI_ltI, nI_eq, nleT, nleF, nltT, nltF, neqT, neqF, nI_add, pk_mul, subN, divN, nI_clamp, mI1, wrH, wrM1, wrM2, wrowH, wrowM, bI0, bI1, kIi, kVi, kRi, kLi, kIx, kVx, Option.some.injEq, exists_eq_left', true_and, and_true, true_implies, false_implies, implies_true, not_true_eq_false, not_false_eq_true, true_or, or_true, false_or, or_false, forall_eq, iteT, iteF, LK_ hK, LB_ hK.p.b]
      refine sp_addSpan (sn := sn) hK.p.b (by rw [eq4 _ (by omega) (by omega)]; exact n8) (by omega) (t78_50 ?_)
      simp (disch := omega) only [vpT, nI_leI, nI_ltI, nI_eq, nleT, nleF, nltT, nltF, neqT, neqF, nI_add, pk_mul, subN, divN, nI_clamp, mI1, wrH, wrM1, wrM2, wrowH, wrowM, bI0, bI1, kIi, kVi, kRi, kLi, kIx, kVx, Option.some.injEq, exists_eq_left', true_and, and_true, true_implies, false_implies, implies_true, not_true_eq_false, not_false_eq_true, true_or, or_true, false_or, or_false, forall_eq, iteT, iteF, LK_ hK, LB_ hK.p.b]
      generalize hI5 : wr (wr (wr I4 (x + 28 + 2 + 8) sn (nI r3)) (x + 28 + 2 + 9) sn (nI r4)) (x + 28 + 2) 8 (nI (sn + 1)) = I5
      have e5 : ∀ q, q ≠ x + 28 + 2 → q ≠ x + 28 + 2 + 8 → q ≠ x + 28 + 2 + 9 → I5 q = I4 q := fun q q1 q2 q3 => by rw [← hI5, wrM1 q1, wrM1 q3, wrM1 q2]
      refine t67_45 (semi I5 (fun a ha => by rw [e5 a (by omega) (by omega) (by omega), u4 a ha]) ?_ fun w => ⟨n, sn + 1, ?_⟩)
      · rw [eB]
        obtain ⟨c2, c3, c4, c5, c6, c7, c8⟩ := hC4
        have e57 : I5 (x + 57) = I4 (x + 57) := e5 _ (by omega) (by omega) (by omega)
        unfold CR
        rw [e57]
        exact ⟨c2, c3, c4, c5, c6, c7, c8⟩
      · rw [eB] at w
        obtain ⟨a1, a2, a3, a4⟩ := nmP_0 w
        rw [if_pos a1] at e3
        rw [if_pos w] at e4
        unfold LE
        rw [if_neg (by rw [h0]; decide), if_neg (by rw [h3]; decide), if_pos h4]
        refine ⟨rfl, rfl, by omega, I5 (x + 28 + 2), I5 (x + 28 + 2 + 8), I5 (x + 28 + 2 + 9), ?_, fun j hj => ?_, ?_, fun k => ?_, fun k => ?_⟩
        · simp (disch := omega) only [bd, e5, eq4]
        · rw [← hI5, wrM2 hj, wrM1 (by omega), wrM1 (by omega), eq4 _ (by omega) (by omega)]
          rfl
        · rw [← hI5]; exact wrH rfl rfl
        · rw [← hI5, wrM1 (by omega), wrM1 (by omega), ← e3]
          by_cases q : k = sn
          · rw [if_pos q]; exact wrH rfl q
          · rw [if_neg q, wrM2 q, eq4 _ (by omega) (by omega)]; rfl
        · rw [← hI5, wrM1 (by omega), ← e4]
          by_cases q : k = sn
          · rw [if_pos q]; exact wrH rfl q
          · rw [if_neg q, wrM2 q, wrM1 (by omega), eq4 _ (by omega) (by omega)]; rfl
  | false =>
  simp (disch := omega) only [vpT, nI_leI, nI_ltI, nI_eq, nleT, nleF, nltT, nltF, neqT, neqF, nI_add, pk_mul, subN, divN, nI_clamp, mI1, wrH, wrM1, wrM2, wrowH, wrowM, bI0, bI1, kIi, kVi, kRi, kLi, kIx, kVx, Option.some.injEq, exists_eq_left', true_and, and_true, true_implies, false_implies, implies_true, not_true_eq_false, not_false_eq_true, true_or, or_true, false_or, or_false, forall_eq, iteT, iteF, LK_ hK, LB_ hK.p.b, bI_f]
  refine sp_isWord hK hW hB hN hC hP (by decide) (t67_54 ?_)
  have fld : ∀ (c lo hi : Nat) I2 I3 r, c = 11 ∨ c = 12 → same I I2 (fun a => a = x + 57) → same I2 I3 (fun a => a = x + 57) → CR I3 x N (lnB B N P n sn) → ((lnB B N P n sn).2.2.2.2.1 = 0 → ∃ n' sn', LE B N P n sn (bd I (x + 28 + 2)) n' sn' (bd (wr I3 (x + 28 + 2) c (nI r)) (x + 28 + 2))) → Wp (cal (d + 5)) kc_67 [] (kV G X) (112, [some (.ref (x + 57))], [], (L, wr I3 (x + 28 + 2) c (nI r), J, t)) := by
    intro c lo hi I2 I3 r hc hs2 hs3 hC3 hl
    refine semi _ (fun a ha => by rw [wrM1 (by omega), hs3 a (by omega), hs2 a (by omega)]) ?_ hl
    obtain ⟨c2, c3, c4, c5, c6, c7, c8⟩ := hC3
    exact ⟨by rw [wrM1 (by omega)]; exact c2, by rw [wrM1 (by omega)]; exact c3, by rw [wrM1 (by omega)]; exact c4, by rw [wrM1 (by omega)]; exact c5, fun q => by rw [wrM1 (by omega)]; exact c6 q, by rw [wrM1 (by omega)]; exact c7, fun q => by rw [wrM1 (by omega)]; exact c8 q⟩
  have fbd : ∀ (c : Nat) I2 I3 (y : Int32), same I I2 (fun a => a = x + 57) → same I2 I3 (fun a => a = x + 57) → bd (wr I3 (x + 28 + 2) c y) (x + 28 + 2) = (wr I3 (x + 28 + 2) c y (x + 28 + 2), (bd I (x + 28 + 2)).2) ∧ (∀ j, j ≠ c → wr I3 (x + 28 + 2) c y (x + 28 + 2) j = bF (bd I (x + 28 + 2)) j) := by
    intro c I2 I3 y hs2 hs3
    have er : ∀ a, a ≠ x + 28 + 2 → a ≠ x + 57 → wr I3 (x + 28 + 2) c y a = I a := fun a h1 h2 => by rw [wrM1 h1, hs3 a h2, hs2 a h2]
    refine ⟨?_, fun j hj => ?_⟩
    · generalize wr I3 (x + 28 + 2) c y = I6 at er
      simp (disch := omega) only [bd, er]
    · rw [wrM2 hj, hs3 _ (by omega), hs2 _ (by omega)]
      rfl
  cases h5 : iw B P 5 with
  | true =>
    have eB : lnB B N P n sn = nmP B N (pst B N P) 0 3 := by unfold lnB; rw [if_neg (by rw [h0]; decide), if_neg (by rw [h3]; decide), if_neg (by rw [h4]; decide), if_pos h5]
    simp (disch := omega) only [vpT, nI_leI, nI_ltI, nI_eq, nleT, nleF, nltT, nltF, neqT, neqF, nI_add, pk_mul, subN, divN, nI_clamp, mI1, wrH, wrM1, wrM2, wrowH, wrowM, bI0, bI1, kIi, kVi, kRi, kLi, kIx, kVx, Option.some.injEq, exists_eq_left', true_and, and_true, true_implies, false_implies, implies_true, not_true_eq_false, not_false_eq_true, true_or, or_true, false_or, or_false, forall_eq, iteT, iteF, LK_ hK, LB_ hK.p.b, bI_t]
    refine sp_step hK hB hN hC hP.1 fun I2 hs2 hC2 => t67_61 ?_
    have u2 : same I I2 (pB x) := hs2.up fun a h => Or.inl h
    simp (disch := omega) only [vpT, nI_leI, nI_ltI, nI_eq, nleT, nleF, nltT, nltF, neqT, neqF, nI_add, pk_mul, subN, divN, nI_clamp, mI1, wrH, wrM1, wrM2, wrowH, wrowM, bI0, bI1, kIi, kVi, kRi, kLi, kIx, kVx, Option.some.injEq, exists_eq_left', true_and, and_true, true_implies, false_implies, implies_true, not_true_eq_false, not_false_eq_true, true_or, or_true, false_or, or_false, forall_eq, iteT, iteF, LK_ hK, LB_ hK.p.b]
    refine sp_number (lo := 0) (hi := 3) hK (hB' I2 u2) hN hC2 hP.pst (by decide) (by decide) fun I3 r3 hs3 hC3 e3 => t67_71 ?_
    simp (disch := omega) only [vpT, nI_leI, nI_ltI, nI_eq, nleT, nleF, nltT, nltF, neqT, neqF, nI_add, pk_mul, subN, divN, nI_clamp, mI1, wrH, wrM1, wrM2, wrowH, wrowM, bI0, bI1, kIi, kVi, kRi, kLi, kIx, kVx, Option.some.injEq, exists_eq_left', true_and, and_true, true_implies, false_implies, implies_true, not_true_eq_false, not_false_eq_true, true_or, or_true, false_or, or_false, forall_eq, iteT, iteF, LK_ hK, LB_ hK.p.b]
    refine fld 11 0 3 I2 I3 r3 (Or.inl rfl) hs2 hs3 (by rw [eB]; exact hC3) fun w => ⟨n, sn, ?_⟩
    rw [eB] at w
    rw [if_pos w] at e3
    unfold LE
    rw [if_neg (by rw [h0]; decide), if_neg (by rw [h3]; decide), if_neg (by rw [h4]; decide), if_pos h5]
    obtain ⟨g1, g2⟩ := fbd 11 I2 I3 (nI r3) hs2 hs3
    exact ⟨rfl, rfl, _, g1, g2, by rw [wrH rfl rfl, e3]⟩
  | false =>
  simp (disch := omega) only [vpT, nI_leI, nI_ltI, nI_eq, nleT, nleF, nltT, nltF, neqT, neqF, nI_add, pk_mul, subN, divN, nI_clamp, mI1, wrH, wrM1, wrM2, wrowH, wrowM, bI0, bI1, kIi, kVi, kRi, kLi, kIx, kVx, Option.some.injEq, exists_eq_left', true_and, and_true, true_implies, false_implies, implies_true, not_true_eq_false, not_false_eq_true, true_or, or_true, false_or, or_false, forall_eq, iteT, iteF, LK_ hK, LB_ hK.p.b, bI_f]
  refine sp_isWord hK hW hB hN hC hP (by decide) (t67_83 ?_)
  cases h6 : iw B P 6 with
  | true =>
    have eB : lnB B N P n sn = nmP B N (pst B N P) 0 99 := by unfold lnB; rw [if_neg (by rw [h0]; decide), if_neg (by rw [h3]; decide), if_neg (by rw [h4]; decide), if_neg (by rw [h5]; decide), if_pos h6]
    simp (disch := omega) only [vpT, nI_leI, nI_ltI, nI_eq, nleT, nleF, nltT, nltF, neqT, neqF, nI_add, pk_mul, subN, divN, nI_clamp, mI1, wrH, wrM1, wrM2, wrowH, wrowM, bI0, bI1, kIi, kVi, kRi, kLi, kIx, kVx, Option.some.injEq, exists_eq_left', true_and, and_true, true_implies, false_implies, implies_true, not_true_eq_false, not_false_eq_true, true_or, or_true, false_or, or_false, forall_eq, iteT, iteF, LK_ hK, LB_ hK.p.b, bI_t]
    refine sp_step hK hB hN hC hP.1 fun I2 hs2 hC2 => t67_90 ?_
    have u2 : same I I2 (pB x) := hs2.up fun a h => Or.inl h
    simp (disch := omega) only [vpT, nI_leI, nI_ltI, nI_eq, nleT, nleF, nltT, nltF, neqT, neqF, nI_add, pk_mul, subN, divN, nI_clamp, mI1, wrH, wrM1, wrM2, wrowH, wrowM, bI0, bI1, kIi, kVi, kRi, kLi, kIx, kVx, Option.some.injEq, exists_eq_left', true_and, and_true, true_implies, false_implies, implies_true, not_true_eq_false, not_false_eq_true, true_or, or_true, false_or, or_false, forall_eq, iteT, iteF, LK_ hK, LB_ hK.p.b]
    refine sp_number (lo := 0) (hi := 99) hK (hB' I2 u2) hN hC2 hP.pst (by decide) (by decide) fun I3 r3 hs3 hC3 e3 => t67_101 ?_
    simp (disch := omega) only [vpT, nI_leI, nI_ltI, nI_eq, nleT, nleF, nltT, nltF, neqT, neqF, nI_add, pk_mul, subN, divN, nI_clamp, mI1, wrH, wrM1, wrM2, wrowH, wrowM, bI0, bI1, kIi, kVi, kRi, kLi, kIx, kVx, Option.some.injEq, exists_eq_left', true_and, and_true, true_implies, false_implies, implies_true, not_true_eq_false, not_false_eq_true, true_or, or_true, false_or, or_false, forall_eq, iteT, iteF, LK_ hK, LB_ hK.p.b]
    refine fld 12 0 99 I2 I3 r3 (Or.inr rfl) hs2 hs3 (by rw [eB]; exact hC3) fun w => ⟨n, sn, ?_⟩
    rw [eB] at w
    rw [if_pos w] at e3
    unfold LE
    rw [if_neg (by rw [h0]; decide), if_neg (by rw [h3]; decide), if_neg (by rw [h4]; decide), if_neg (by rw [h5]; decide)]
    obtain ⟨g1, g2⟩ := fbd 12 I2 I3 (nI r3) hs2 hs3
    exact ⟨rfl, rfl, _, g1, g2, by rw [wrH rfl rfl, e3]⟩
  | false =>
    have eB : lnB B N P n sn = rfs P 1 := by unfold lnB; rw [if_neg (by rw [h0]; decide), if_neg (by rw [h3]; decide), if_neg (by rw [h4]; decide), if_neg (by rw [h5]; decide), if_neg (by rw [h6]; decide)]
    simp (disch := omega) only [vpT, nI_leI, nI_ltI, nI_eq, nleT, nleF, nltT, nltF, neqT, neqF, nI_add, pk_mul, subN, divN, nI_clamp, mI1, wrH, wrM1, wrM2, wrowH, wrowM, bI0, bI1, kIi, kVi, kRi, kLi, kIx, kVx, Option.some.injEq, exists_eq_left', true_and, and_true, true_implies, false_implies, implies_true, not_true_eq_false, not_false_eq_true, true_or, or_true, false_or, or_false, forall_eq, iteT, iteF, LK_ hK, LB_ hK.p.b, bI_f]
    refine sp_refuse hK hC hP fun I2 hs2 hC2 => semi I2 (hs2.up fun a h => Or.inl h) (by rw [eB]; exact hC2) fun w => ?_
    rw [eB] at w
    by_cases f : P.2.2.2.2.1 = 0
    · rw [rfs_f f] at w; cases w
    · rw [rfs_n f] at w; exact absurd w f
end LINEC
