/-! The law's calls: board. -/
abbrev rst : Type := PS × BS × Nat × Nat
/-- one line of a chain -/
def SP (B : Nat → Int32) (N : Nat) (c b : rst) : Prop := c.1.2.2.2.2.1 = 0 ∧ c.1.1 ≠ 3 ∧ OKP B N c.1 ∧ VL c.2.1 c.2.2.1 c.2.2.2 0 ∧ b.1 = lnP B N c.1 c.2.2.1 c.2.2.2 ∧ (b.1.2.2.2.2.1 = 0 → LE B N c.1 c.2.2.1 c.2.2.2 c.2.1 b.2.2.1 b.2.2.2 b.2.1)
def CH (B : Nat → Int32) (N : Nat) : Nat → rst → rst → Prop
  | 0, a, b => b = a
  | K + 1, a, b => ∃ c, CH B N K a c ∧ SP B N c b
section QM
variable {B : Nat → Int32} {N lo hi k : Nat} {P : PS}
theorem q_pst (h : OKP B N P) : P.2.2.1 ≤ (pst B N P).2.2.1 := by
  unfold pst
  split
  · have := PW_lex (B := B) h.1.2.1
    have h2 := this.1.1
    omega
  · exact Nat.le_refl _
theorem q_rfs : (rfs P k).2.2.1 = P.2.2.1 := by
  unfold rfs
  split <;> rfl
theorem q_nm (h : OKP B N P) : P.2.2.1 ≤ (nmP B N P lo hi).2.2.1 := by
  unfold nmP nmE
  split
  · split
    · have := q_pst (h.rfs (k := 2) (by decide))
      rw [q_rfs] at this
      exact this
    · exact q_pst h
  · have := q_pst (h.rfs (k := 1) (by decide))
    rw [q_rfs] at this
    exact this
theorem q_so (h : OKP B N P) : P.2.2.1 ≤ (soP B N P).2.2.1 := by
  unfold soP soE
  split
  · exact Nat.le_trans (q_pst h) (q_nm h.pst)
  · have a := q_pst (h.rfs (k := 1) (by decide))
    rw [q_rfs] at a
    exact Nat.le_trans a (q_nm (h.rfs (by decide)).pst)
theorem q_lnB {n sn : Nat} (h : OKP B N P) : P.2.2.1 ≤ (lnB B N P n sn).2.2.1 := by
  have h1 := q_pst h
  unfold lnB
  repeat' split
  · exact Nat.le_trans h1 (Nat.le_trans (q_so h.pst) (Nat.le_trans (q_so h.pst.so) (q_nm h.pst.so.so)))
  · rw [q_rfs]; exact Nat.le_refl _
  · exact Nat.le_trans h1 (Nat.le_trans (q_so h.pst) (Nat.le_trans (q_nm h.pst.so) (Nat.le_trans (q_nm h.pst.so.nm) (q_nm h.pst.so.nm.nm))))
  · rw [q_rfs]; exact Nat.le_refl _
  · exact Nat.le_trans h1 (Nat.le_trans (q_nm h.pst) (q_nm h.pst.nm))
  · exact Nat.le_trans h1 (q_nm h.pst)
  · exact Nat.le_trans h1 (q_nm h.pst)
  · rw [q_rfs]; exact Nat.le_refl _
theorem s_lnP {n sn : Nat} (h : OKP B N P) (h0 : (lnP B N P n sn).2.2.2.2.1 = 0) : P.2.2.1 ≤ (lnP B N P n sn).2.1 := by
  obtain ⟨a1, a2⟩ := lnP_0 h0
  unfold lnP
  rw [if_pos a2]
  unfold pst
  rw [if_pos a1]
  exact Nat.le_trans (q_lnB h) (PW_lex (h.lnB (n := n) (sn := sn)).1.2.1).2
end QM
theorem New_VL {S S' : BS} (h : New S S') : VL S' 0 0 0 := by
  obtain ⟨⟨f0, f8, f11, f12, f13, f14⟩, g⟩ := h
  refine ⟨⟨⟨⟨f0, by decide⟩, ⟨f8, by decide⟩, ⟨f14, by decide⟩, fun k hk => absurd hk (Nat.not_lt_zero _), fun k hk => absurd hk (Nat.not_lt_zero _), fun k hk => absurd hk (Nat.not_lt_zero _)⟩, fun i j hi => absurd hi (Nat.not_lt_zero _), ⟨by decide, fun k hk => absurd hk (Nat.not_lt_zero _), fun k hk => by rw [g k hk]; decide, fun k hk => absurd hk (Nat.not_lt_zero _), by rw [f13]; decide, fun k hk => absurd hk (Nat.not_lt_zero _)⟩, fun k hk => absurd hk (Nat.not_lt_zero _), 2, by decide, f11⟩, fun k hk => absurd hk (Nat.not_lt_zero _)⟩
/-- the model's row, cleared -/
def clr (r : rw1) : Prop := (∀ j, j < 189 → j ≠ 2 → j ≠ 3 → r j = if 56 ≤ j ∧ j ≤ 119 then nI 3 else nI 0) ∧ r 2 = nI 2 ∧ r 3 = nI 10
theorem New_Rel {S S' : BS} {r : rw1} (h : New S S') (c : clr r) : Rel r S' 0 0 0 := by
  obtain ⟨⟨f0, f8, f11, f12, f13, f14⟩, g⟩ := h
  obtain ⟨c1, c2, c3⟩ := c
  have z : ∀ j, j < 189 → j ≠ 2 → j ≠ 3 → ¬ (56 ≤ j ∧ j ≤ 119) → r j = nI 0 := fun j h1 h2 h3 h4 => by rw [c1 j h1 h2 h3, if_neg h4]
  refine ⟨⟨z 0 (by decide) (by decide) (by decide) (by decide), by rw [z 1 (by decide) (by decide) (by decide) (by decide), f13], by rw [c2, f11], by rw [c3, f12], z 4 (by decide) (by decide) (by decide) (by decide), z 5 (by decide) (by decide) (by decide) (by decide)⟩, fun k hk => absurd hk (Nat.not_lt_zero _), fun k hk => ?_, fun k hk => absurd hk (Nat.not_lt_zero _), fun k hk => absurd hk (Nat.not_lt_zero _), 0, by decide, z 188 (by decide) (by decide) (by decide) (by decide), fun k hk => absurd hk (Nat.not_lt_zero _)⟩
  rw [c1 _ (by omega) (by omega) (by omega), if_pos (by omega), g k hk]
section BOARD1
variable {I0 I : Nat → Nat → Int32} {J : Nat → Nat → Int64} {L : hL} {x N : Nat} {B : Nat → Int32} {t : tl} {F : Int32 → hp → Prop} {G : hp → Prop} {X : Nat → hp → Prop} {d : Nat}
theorem mp_clears {a : Nat} (ha : L.1 a = 20) (hl : L.2.1 a = 189) (k : ∀ I2, same I I2 (fun q => q = a) → clr (I2 a) → G (L, I2, J, t)) : cal (d + 2) 174 [.ref a] (L, I, J, t) (kV G X) := by
  refine e174 (t174_0 ?_)
  refine lg (n := 189) (fun i lv h => ∃ I2, lv = [some (.ref a), some (.int (nI i))] ∧ h = (L, I2, J, t) ∧ same I I2 (fun q => q = a) ∧ ∀ j, j < i → I2 a j = if 56 ≤ j ∧ j ≤ 119 then nI 3 else nI 0) ?_ ?_ (Nat.zero_le _) _ _ ⟨I, rfl, rfl, same.rf, fun j hj => absurd hj (Nat.not_lt_zero _)⟩
  · rintro i hi ih _ _ ⟨I2, rfl, rfl, hs, h1⟩
    refine t174_2 ?_
    simp (disch := omega) only [vpT, nI_leI, nI_ltI, nI_eq, nleT, nleF, nltT, nltF, neqT, neqF, nI_add, pk_mul, subN, divN, nI_clamp, mI1, wrH, wrM1, wrM2, wrowH, wrowM, bI0, bI1, kIi, kVi, kRi, kLi, kIx, kVx, Option.some.injEq, exists_eq_left', true_and, and_true, true_implies, false_implies, implies_true, not_true_eq_false, not_false_eq_true, true_or, or_true, false_or, or_false, forall_eq, iteT, iteF]
    have nx : ∀ v, v = (if 56 ≤ i ∧ i ≤ 119 then nI 3 else nI 0) → Wp (cal (d + 1)) kc_174 [] (kV G X) (2, [some (.ref a), some (.int (nI (i + 1)))], [], (L, wr I2 a i v, J, t)) := fun v hv => ih _ _ ⟨_, rfl, rfl, fun q hq => by rw [wrM1 hq]; exact hs q hq, fun j hj => by
      by_cases e : j = i
      · rw [wrH rfl e, hv, e]
      · rw [wrM2 e]; exact h1 j (by omega)⟩
    by_cases q : 56 ≤ i ∧ i ≤ 119
    · refine mp_inT (lo := nI 56) (hi := nI 119) rfl rfl ⟨(nI_leI (by decide) (by omega)).mpr q.1, (nI_leI (by omega) (by decide)).mpr q.2⟩ (t174_22 ?_)
      simp (disch := omega) only [vpT, nI_leI, nI_ltI, nI_eq, nleT, nleF, nltT, nltF, neqT, neqF, nI_add, pk_mul, subN, divN, nI_clamp, mI1, wrH, wrM1, wrM2, wrowH, wrowM, bI0, bI1, kIi, kVi, kRi, kLi, kIx, kVx, Option.some.injEq, exists_eq_left', true_and, and_true, true_implies, false_implies, implies_true, not_true_eq_false, not_false_eq_true, true_or, or_true, false_or, or_false, forall_eq, iteT, iteF, ha, hl]
      exact nx _ (by rw [if_pos q])
    · refine mp_inF (lo := nI 56) (hi := nI 119) rfl rfl (fun w => q ⟨(nI_leI (by decide) (by omega)).mp w.1, (nI_leI (by omega) (by decide)).mp w.2⟩) (t174_22 ?_)
      simp (disch := omega) only [vpT, nI_leI, nI_ltI, nI_eq, nleT, nleF, nltT, nltF, neqT, neqF, nI_add, pk_mul, subN, divN, nI_clamp, mI1, wrH, wrM1, wrM2, wrowH, wrowM, bI0, bI1, kIi, kVi, kRi, kLi, kIx, kVx, Option.some.injEq, exists_eq_left', true_and, and_true, true_implies, false_implies, implies_true, not_true_eq_false, not_false_eq_true, true_or, or_true, false_or, or_false, forall_eq, iteT, iteF, ha, hl]
      exact nx _ (by rw [if_neg q])
  · rintro _ _ ⟨I2, rfl, rfl, hs, h1⟩
    refine t174_2 ?_
    simp (disch := omega) only [vpT, nI_leI, nI_ltI, nI_eq, nleT, nleF, nltT, nltF, neqT, neqF, nI_add, pk_mul, subN, divN, nI_clamp, mI1, wrH, wrM1, wrM2, wrowH, wrowM, bI0, bI1, kIi, kVi, kRi, kLi, kIx, kVx, Option.some.injEq, exists_eq_left', true_and, and_true, true_implies, false_implies, implies_true, not_true_eq_false, not_false_eq_true, true_or, or_true, false_or, or_false, forall_eq, iteT, iteF, ha, hl]
    refine k _ (fun q hq => by rw [wrM1 hq, wrM1 hq]; exact hs q hq) ⟨fun j j1 j2 j3 => by rw [wrM2 j3, wrM2 j2]; exact h1 j j1, by rw [wrM2 (by decide)]; exact wrH rfl rfl, wrH rfl rfl⟩
--facts LK_ hK, LB_ hK.p.b
theorem sp_read (hK : LK L x) (hW : WS L I x) (hB : ∀ j, j < N → I (x + 56) j = B j) (hN : N ≤ 500) (k : ∀ I2 K S0 b, same I I2 (pB x) → (∃ S, New S S0) → CH B N K (lex B N 0, S0, 0, 0) b → (b.1.2.2.2.2.1 ≠ 0 ∨ b.1.1 = 3) → OKP B N b.1 → CR I2 x N b.1 → (b.1.2.2.2.2.1 = 0 → bd I2 (x + 28 + 2) = b.2.1 ∧ VL b.2.1 b.2.2.1 b.2.2.2 0) → F (nI b.1.2.2.2.2.1) (L, I2, J, t)) : cal (d + 9) 64 [.ref (x + 57), .int (nI N)] (L, I, J, t) (kI F X) := by
  refine e64 (t64_0 ?_)
  simp (disch := omega) only [vpT, nI_leI, nI_ltI, nI_eq, nleT, nleF, nltT, nltF, neqT, neqF, nI_add, pk_mul, subN, divN, nI_clamp, mI1, wrH, wrM1, wrM2, wrowH, wrowM, bI0, bI1, kIi, kVi, kRi, kLi, kIx, kVx, Option.some.injEq, exists_eq_left', true_and, and_true, true_implies, false_implies, implies_true, not_true_eq_false, not_false_eq_true, true_or, or_true, false_or, or_false, forall_eq, iteT, iteF, LK_ hK, LB_ hK.p.b]
  have e500 : (if 500 < N then nI 500 else nI N) = nI N := by rw [if_neg (by omega)]
  refine sp_makeNew hK.p.b fun I2 hs2 hNew => t64_30 ?_
  have c2 : I2 (x + 57) 2 = nI N := by rw [hs2 _ (by omega)]; simp (disch := omega) only [vpT, nI_leI, nI_ltI, nI_eq, nleT, nleF, nltT, nltF, neqT, neqF, nI_add, pk_mul, subN, divN, nI_clamp, mI1, wrH, wrM1, wrM2, wrowH, wrowM, bI0, bI1, kIi, kVi, kRi, kLi, kIx, kVx, Option.some.injEq, exists_eq_left', true_and, and_true, true_implies, false_implies, implies_true, not_true_eq_false, not_false_eq_true, true_or, or_true, false_or, or_false, forall_eq, iteT, iteF, LK_ hK, LB_ hK.p.b]
  have c3 : I2 (x + 57) 3 = nI 0 := by rw [hs2 _ (by omega)]; simp (disch := omega) only [vpT, nI_leI, nI_ltI, nI_eq, nleT, nleF, nltT, nltF, neqT, neqF, nI_add, pk_mul, subN, divN, nI_clamp, mI1, wrH, wrM1, wrM2, wrowH, wrowM, bI0, bI1, kIi, kVi, kRi, kLi, kIx, kVx, Option.some.injEq, exists_eq_left', true_and, and_true, true_implies, false_implies, implies_true, not_true_eq_false, not_false_eq_true, true_or, or_true, false_or, or_false, forall_eq, iteT, iteF, LK_ hK, LB_ hK.p.b]
  have c7 : I2 (x + 57) 7 = nI 0 := by rw [hs2 _ (by omega)]; simp (disch := omega) only [vpT, nI_leI, nI_ltI, nI_eq, nleT, nleF, nltT, nltF, neqT, neqF, nI_add, pk_mul, subN, divN, nI_clamp, mI1, wrH, wrM1, wrM2, wrowH, wrowM, bI0, bI1, kIi, kVi, kRi, kLi, kIx, kVx, Option.some.injEq, exists_eq_left', true_and, and_true, true_implies, false_implies, implies_true, not_true_eq_false, not_false_eq_true, true_or, or_true, false_or, or_false, forall_eq, iteT, iteF, LK_ hK, LB_ hK.p.b]
  have u2 : same I I2 (pB x) := fun a ha => by rw [hs2 a (by omega), wrM1 (by omega), wrM1 (by omega), wrM1 (by omega)]
  have hB' : ∀ I3, same I I3 (pB x) → ∀ j, j < N → I3 (x + 56) j = B j := fun I3 h j hj => by rw [h _ (by omega)]; exact hB j hj
  simp (disch := omega) only [vpT, nI_leI, nI_ltI, nI_eq, nleT, nleF, nltT, nltF, neqT, neqF, nI_add, pk_mul, subN, divN, nI_clamp, mI1, wrH, wrM1, wrM2, wrowH, wrowM, bI0, bI1, kIi, kVi, kRi, kLi, kIx, kVx, Option.some.injEq, exists_eq_left', true_and, and_true, true_implies, false_implies, implies_true, not_true_eq_false, not_false_eq_true, true_or, or_true, false_or, or_false, forall_eq, iteT, iteF, LK_ hK, LB_ hK.p.b]
  refine sp_step0 (p := 0) hK (hB' I2 u2) hN (Nat.zero_le _) c2 c3 c7 fun I3 hs3 hC3 => t64_34 ?_
  have hV0 := New_VL hNew
  have hO0 : OKP B N (lex B N 0) := ⟨(PW_lex (Nat.zero_le _)).1, PB_lex (Nat.zero_le _)⟩
  have eb3 : bd I3 (x + 28 + 2) = bd I2 (x + 28 + 2) := hs3.bd fun a r1 r2 => by omega
  generalize hS0 : bd I2 (x + 28 + 2) = S0 at hNew hV0 eb3
  refine lg (n := N + 1) (fun i lv h => ∃ I4 K b, lv = [some (.ref (x + 57)), some (.int (nI N)), some (.int (nI i))] ∧ h = (L, I4, J, t) ∧ same I I4 (pB x) ∧ CH B N K (lex B N 0, S0, 0, 0) b ∧ OKP B N b.1 ∧ CR I4 x N b.1 ∧ (b.1.2.2.2.2.1 = 0 → bd I4 (x + 28 + 2) = b.2.1 ∧ VL b.2.1 b.2.2.1 b.2.2.2 0 ∧ i ≤ b.1.2.1)) ?_ ?_ (Nat.zero_le _) _ _ ⟨I3, 0, (lex B N 0, S0, 0, 0), rfl, rfl, u2.tr (hs3.up fun a h => Or.inl h), rfl, hO0, hC3, fun _ => ⟨eb3, hV0, Nat.zero_le _⟩⟩
  · rintro i hi ih _ _ ⟨I4, K, b, rfl, rfl, hs4, hCh, hO, hC, hG⟩
    have p4 := hO.1.2.2.2.1
    have p3 := hO.1.2.2.1
    have fin : (b.1.2.2.2.2.1 ≠ 0 ∨ b.1.1 = 3) → F (nI b.1.2.2.2.2.1) (L, I4, J, t) := fun w => k I4 K S0 b hs4 ⟨_, hNew⟩ hCh w hO hC fun f => ⟨(hG f).1, (hG f).2.1⟩
    have c7 := hC.2.2.2.2.2.1
    have c4 := hC.2.2.1
    refine t64_36 ?_
    by_cases t3 : b.1.1 = 3
    · have f := fin (Or.inr t3)
      rw [t3] at c4
      simp (disch := omega) only [vpT, nI_leI, nI_ltI, nI_eq, nleT, nleF, nltT, nltF, neqT, neqF, nI_add, pk_mul, subN, divN, nI_clamp, mI1, wrH, wrM1, wrM2, wrowH, wrowM, bI0, bI1, kIi, kVi, kRi, kLi, kIx, kVx, Option.some.injEq, exists_eq_left', true_and, and_true, true_implies, false_implies, implies_true, not_true_eq_false, not_false_eq_true, true_or, or_true, false_or, or_false, forall_eq, iteT, iteF, LK_ hK, LB_ hK.p.b, hC.1, c4, c7]
      exact f
    · by_cases f0 : b.1.2.2.2.2.1 = 0
      · obtain ⟨g1, g2, g3⟩ := hG f0
        rw [f0] at c7
        simp (disch := omega) only [vpT, nI_leI, nI_ltI, nI_eq, nleT, nleF, nltT, nltF, neqT, neqF, nI_add, pk_mul, subN, divN, nI_clamp, mI1, wrH, wrM1, wrM2, wrowH, wrowM, bI0, bI1, kIi, kVi, kRi, kLi, kIx, kVx, Option.some.injEq, exists_eq_left', true_and, and_true, true_implies, false_implies, implies_true, not_true_eq_false, not_false_eq_true, true_or, or_true, false_or, or_false, forall_eq, iteT, iteF, LK_ hK, LB_ hK.p.b, hC.1, c4, c7]
        refine sp_line (n := b.2.2.1) (sn := b.2.2.2) (dn := 0) hK (hW.fr fun a ha => hs4 a (by omega)) (hB' I4 hs4) hN hC hO (by rw [g1]; exact g2) fun I5 hs5 hC5 hl => t64_63 ?_
        simp (disch := omega) only [vpT, nI_leI, nI_ltI, nI_eq, nleT, nleF, nltT, nltF, neqT, neqF, nI_add, pk_mul, subN, divN, nI_clamp, mI1, wrH, wrM1, wrM2, wrowH, wrowM, bI0, bI1, kIi, kVi, kRi, kLi, kIx, kVx, Option.some.injEq, exists_eq_left', true_and, and_true, true_implies, false_implies, implies_true, not_true_eq_false, not_false_eq_true, true_or, or_true, false_or, or_false, forall_eq, iteT, iteF, LK_ hK, LB_ hK.p.b]
        rw [g1] at hl
        have sq := hO.1.2.2.2.2.2.2.1 t3
        by_cases f1 : (lnP B N b.1 b.2.2.1 b.2.2.2).2.2.2.2.1 = 0
        · obtain ⟨n', sn', hLE⟩ := hl f1
          refine ih _ _ ⟨I5, K + 1, (lnP B N b.1 b.2.2.1 b.2.2.2, bd I5 (x + 28 + 2), n', sn'), rfl, rfl, hs4.tr hs5, ⟨b, hCh, f0, t3, hO, g2, rfl, fun _ => hLE⟩, hO.lnP, hC5, fun _ => ⟨rfl, LE_VL g2 (lnP_0 f1).1 hLE, ?_⟩⟩
          have := s_lnP hO f1
          show i + 1 ≤ (lnP B N b.1 b.2.2.1 b.2.2.2).2.1
          omega
        · refine ih _ _ ⟨I5, K + 1, (lnP B N b.1 b.2.2.1 b.2.2.2, bd I5 (x + 28 + 2), 0, 0), rfl, rfl, hs4.tr hs5, ⟨b, hCh, f0, t3, hO, g2, rfl, fun w => absurd w f1⟩, hO.lnP, hC5, fun w => absurd w f1⟩
      · have f := fin (Or.inl f0)
        simp (disch := omega) only [vpT, nI_leI, nI_ltI, nI_eq, nleT, nleF, nltT, nltF, neqT, neqF, nI_add, pk_mul, subN, divN, nI_clamp, mI1, wrH, wrM1, wrM2, wrowH, wrowM, bI0, bI1, kIi, kVi, kRi, kLi, kIx, kVx, Option.some.injEq, exists_eq_left', true_and, and_true, true_implies, false_implies, implies_true, not_true_eq_false, not_false_eq_true, true_or, or_true, false_or, or_false, forall_eq, iteT, iteF, LK_ hK, LB_ hK.p.b, hC.1, c4, c7]
        exact f
  · rintro _ _ ⟨I4, K, b, rfl, rfl, hs4, hCh, hO, hC, hG⟩
    have p4 := hO.1.2.2.2.1
    have c7 := hC.2.2.2.2.2.1
    have f0 : b.1.2.2.2.2.1 ≠ 0 := fun w => by
      have := (hG w).2.2
      have h1 := hO.1.1
      have h2 := hO.1.2.1
      omega
    refine t64_36 ?_
    simp (disch := omega) only [vpT, nI_leI, nI_ltI, nI_eq, nleT, nleF, nltT, nltF, neqT, neqF, nI_add, pk_mul, subN, divN, nI_clamp, mI1, wrH, wrM1, wrM2, wrowH, wrowM, bI0, bI1, kIi, kVi, kRi, kLi, kIx, kVx, Option.some.injEq, exists_eq_left', true_and, and_true, true_implies, false_implies, implies_true, not_true_eq_false, not_false_eq_true, true_or, or_true, false_or, or_false, forall_eq, iteT, iteF, LK_ hK, LB_ hK.p.b, hC.1, c7]
    exact k I4 K S0 b hs4 ⟨_, hNew⟩ hCh (Or.inl f0) hO hC fun w => absurd w f0
end BOARD1
section BOARD2
variable {I0 I : Nat → Nat → Int32} {J : Nat → Nat → Int64} {L : hL} {x n sn dn ac fi tp sd : Nat} {t : tl} {F : Int32 → hp → Prop} {G : hp → Prop} {X : Nat → hp → Prop} {d e z l : Nat} {ex : Bool}
/-- the model through a chain -/
theorem mp_chain {B : Nat → Int32} {N : Nat} {J2 : Nat → Nat → Int64} {a : rst} {l2 : Option Value} (hK : LK L x) (hW : WS L I x) (hB : ∀ j, j < N → I (x + 271 + 5) j = B j) (hb : ∀ j, j < N → byt (B j)) (hN : N ≤ 500) {Q : oc → hp → Prop} {y1 : Int32} : ∀ K b, CH B N K a b → (∀ I2 J3, MG I I2 J2 J3 x → MR I2 J3 B (x + 271) N b.1 → (b.1.2.2.2.2.1 = 0 → I2 (x + 271 + 2) 188 = nI 0 ∧ Rel (I2 (x + 271 + 2)) b.2.1 b.2.2.1 b.2.2.2 0) → Wp (cal (d + 8)) kc_179 [] Q (62, [some (.ref (x + 271)), some (.int y1), l2], [], (L, I2, J3, t))) → ∀ I2 J3, MG I I2 J2 J3 x → MR I2 J3 B (x + 271) N a.1 → (a.1.2.2.2.2.1 = 0 → I2 (x + 271 + 2) 188 = nI 0 ∧ Rel (I2 (x + 271 + 2)) a.2.1 a.2.2.1 a.2.2.2 0) → Wp (cal (d + 8)) kc_179 [] Q (62, [some (.ref (x + 271)), some (.int y1), l2], [], (L, I2, J3, t)) := by
  intro K
  induction K with
  | zero =>
    intro b hb' good
    have : b = a := hb'
    rw [this] at good
    exact good
  | succ K ih =>
    intro b hb' good
    obtain ⟨c, hc, f0, t3, hO, hV, eP, hL⟩ := hb'
    refine ih c hc fun I2 J3 u2 hM2 hR2 => ?_
    obtain ⟨h188, hR⟩ := hR2 f0
    have p3 := hO.1.2.2.1
    have hm := mtk_lt (k := c.1.1)
    have n3 : mtk c.1.1 ≠ 1003 := fun w => t3 ((mtk_eq (c := 3) p3 hO.2 (by decide) (by decide)).mp (w.trans mtk3.symm))
    refine t179_62 ?_
    simp (disch := omega) only [LM_ hK.m, true_and]
    refine mp_fine hK hM2 hO (t179_66 ?_)
    rw [decide_eq_true f0, bI_t]
    have e11 := hM2.2.2.2.1
    simp (disch := omega) only [LM_ hK.m, true_and, e11, nI_eq, neqF, false_implies, not_false_eq_true, true_implies]
    have hW2 : WS L I2 x := hW.fr fun a ha => u2.1 a (by omega)
    have hB2 : ∀ j, j < N → I2 (x + 271 + 5) j = B j := fun j hj => by rw [u2.1 _ (by omega)]; exact hB j hj
    refine mp_line hK hW2 hB2 hb hN hM2 hO f0 hV hR h188 fun I4 J4 u4 hM4 hl => t179_83 ?_
    have hO4 := hO.lnB (n := c.2.2.1) (sn := c.2.2.2)
    have u24 := u2.tr u4
    have hB4 : ∀ j, j < N → I4 (x + 271 + 5) j = B j := fun j hj => by rw [u24.1 _ (by omega)]; exact hB j hj
    simp (disch := omega) only [LM_ hK.m, true_and]
    refine mp_fine hK hM4 hO4 (t179_87 ?_)
    generalize hE : lnB B N c.1 c.2.2.1 c.2.2.2 = E at hM4 hl hO4
    have eL : lnP B N c.1 c.2.2.1 c.2.2.2 = pst B N (if E.1 = 2 then E else rfs E 1) := by unfold lnP; rw [hE]
    by_cases g0 : E.2.2.2.2.1 = 0
    · rw [decide_eq_true g0, bI_t]
      have p3E := hO4.1.2.2.1
      have hmE := mtk_lt (k := E.1)
      have e11 := hM4.2.2.2.1
      by_cases s2 : E.1 = 2
      · have e59 : I4 (x + 271) 11 = nI 59 := by rw [e11, s2, mtk2]
        simp (disch := omega) only [LM_ hK.m, true_and, e59, nI_eq, neqF, neqT, false_implies, not_false_eq_true, not_true_eq_false, true_implies]
        refine mp_chk (b := true) (c := 1) hK hM4 hO4 (by decide) (by decide) fun I5 f5 hM5 => t179_109 ?_
        rw [if_pos rfl] at hM5 ⊢
        rw [decide_eq_true g0, bI_t]
        simp (disch := omega) only [LM_ hK.m, true_and, nI_eq, neqF, false_implies, not_false_eq_true, true_implies]
        refine mp_st hK (fun j hj => by rw [f5.1 _ (by omega)]; exact hB4 j hj) hb hN hM5 hO4 g0 fun I6 J6 f6 hM6 => t179_116 ?_
        have eb : b.1 = pst B N E := by rw [eP, eL, if_pos s2]
        refine good I6 J6 ((u24.tr f5.g).tr f6.g) (by rw [eb]; exact hM6) fun _ => ?_
        have row : I6 (x + 271 + 2) = I4 (x + 271 + 2) := by rw [f6.1 _ (by omega), f5.1 _ (by omega)]
        rw [row]
        exact ⟨(hl g0).1, (hl g0).2 _ _ _ (hL (by rw [eb]; exact pst_0 g0))⟩
      · have n2 : mtk E.1 ≠ 59 := fun w => s2 ((mtk_eq (c := 2) p3E hO4.2 (by decide) (by decide)).mp (w.trans mtk2.symm))
        simp (disch := omega) only [LM_ hK.m, true_and, e11, nI_eq, neqF, false_implies, not_false_eq_true, true_implies, and_true]
        refine mp_chk (b := false) (c := 1) hK hM4 hO4 (by decide) (by decide) fun I5 f5 hM5 => t179_109 ?_
        rw [if_neg (by decide)] at hM5 ⊢
        rw [rfs_f g0, decide_eq_false (by decide), bI_f]
        have gn : (rfs E 1).2.2.2.2.1 ≠ 0 := by rw [rfs_f g0]; decide
        have eb : b.1 = rfs E 1 := by rw [eP, eL, if_neg s2, pst_n gn]
        simp (disch := omega) only [nI_eq, neqT, true_implies, not_true_eq_false, false_implies, and_true]
        exact good I5 J4 (u24.tr f5.g) (by rw [eb]; exact hM5) fun w => absurd (by rw [eb] at w; exact w) gn
    · rw [decide_eq_false g0, bI_f]
      have eb : b.1 = E := by
        rw [eP, eL]
        split
        · exact pst_n g0
        · rw [rfs_n g0]; exact pst_n g0
      simp (disch := omega) only [nI_eq, neqT, true_implies, not_true_eq_false, false_implies, and_true]
      exact good I4 J4 u24 (by rw [eb]; exact hM4) fun w => absurd (by rw [eb] at w; exact w) g0
--facts LK_ hK, LM_ hK.m, LB_ hK.b
theorem P_board {p : Int32} (hK : LK L x) (hW0 : WS L I0 x) (h : SX I0 I x n sn dn ac fi tp sd) : PR I0 L x 62 179 0 9 d e [.int p] I J z l ex := by
  have h2 := h
  obtain ⟨⟨a1, a2⟩, ⟨b1, b2, b3, b4, b5⟩, ⟨c1, c2, c3, c4, c5, c6⟩, ⟨d1, d2, d3, d4⟩, e1⟩ := h2
  have hW : WS L I x := hW0.fr e1
  refine e62 (t62_0 ?_)
  simp (disch := omega) only [vpT, nI_leI, nI_ltI, nI_eq, nleT, nleF, nltT, nltF, neqT, neqF, nI_add, pk_mul, subN, divN, nI_clamp, mI1, wrH, wrM1, wrM2, wrowH, wrowM, bI0, bI1, kIi, kVi, kRi, kLi, kIx, kVx, Option.some.injEq, exists_eq_left', true_and, and_true, true_implies, false_implies, implies_true, not_true_eq_false, not_false_eq_true, true_or, or_true, false_or, or_false, forall_eq, iteT, iteF, LK_ hK, LM_ hK.m, LB_ hK.b, b1]
  refine sp_checkArgument (fun q => Or.inl ⟨rfl, (by unfold NE9; decide), I, J, rfl, (by first | exact h.2.2.2.2 | exact fun a ha => (em a (Or.inr ha)).trans (h.2.2.2.2 a ha) | exact fun a ha => (em2 a (Or.inr ha)).trans (h.2.2.2.2 a ha) | exact fun a ha => (hs a (by omega)).trans (h.2.2.2.2 a ha) | exact fun a ha => (wrM1 (by omega)).trans ((em a (Or.inr ha)).trans (h.2.2.2.2 a ha)) | exact fun a ha => (e3 a (by omega)).trans ((em a (Or.inr ha)).trans (h.2.2.2.2 a ha)) | exact fun a ha => (cs a (by omega) (by omega)).trans (h.2.2.2.2 a ha) | exact fun a ha => (hs2 a (by omega)).trans (h.2.2.2.2 a ha) | exact fun a ha => (e3 a (by omega) (by omega)).trans (h.2.2.2.2 a ha) | exact fun a ha => (e3 a (by omega) (by omega) (by omega) (by omega)).trans (h.2.2.2.2 a ha) | exact fun a ha => (hs5 a (by omega)).trans ((hs4' a (by omega)).trans ((hs3' a (by omega)).trans ((hs2 a (by omega)).trans (h.2.2.2.2 a ha)))) | (intro a ha; (try rw [wrM1 (by omega)]); (try rw [hs6 a (by omega)]); (try rw [hs5 a (by omega)]); (try rw [e5 a (by omega)]); (try rw [hs4 a (by omega)]); (try rw [e4 a (by omega)]); (try rw [hs3 a (by omega)]); (try rw [e3 a (by omega)]); (try rw [wrM1 (by omega)]); (try rw [hs2 a (by omega)]); (try rw [e2 a (by omega)]); (try rw [em2 a (Or.inr ha)]); (try rw [cs a (by omega) (by omega)]); (try rw [hs1 a (by omega)]); (try rw [hs a (by omega)]); (try rw [em a (Or.inr ha)]); exact h.2.2.2.2 a ha)), fun J2 => e179 (t179_0 ?_)⟩) (fun q1 q2 => t62_9 ?_)
  · simp (disch := omega) only [vpT, nI_leI, nI_ltI, nI_eq, nleT, nleF, nltT, nltF, neqT, neqF, nI_add, pk_mul, subN, divN, nI_clamp, mI1, wrH, wrM1, wrM2, wrowH, wrowM, bI0, bI1, kIi, kVi, kRi, kLi, kIx, kVx, Option.some.injEq, exists_eq_left', true_and, and_true, true_implies, false_implies, implies_true, not_true_eq_false, not_false_eq_true, true_or, or_true, false_or, or_false, forall_eq, iteT, iteF, LK_ hK, LM_ hK.m, LB_ hK.b, b2]
    refine mp_inF (lo := nI 0) rfl rfl q (t179_17 ?_)
    simp (disch := omega) only [vpT, nI_leI, nI_ltI, nI_eq, nleT, nleF, nltT, nltF, neqT, neqF, nI_add, pk_mul, subN, divN, nI_clamp, mI1, wrH, wrM1, wrM2, wrowH, wrowM, bI0, bI1, kIi, kVi, kRi, kLi, kIx, kVx, Option.some.injEq, exists_eq_left', true_and, and_true, true_implies, false_implies, implies_true, not_true_eq_false, not_false_eq_true, true_or, or_true, false_or, or_false, forall_eq, iteT, iteF, LK_ hK, LM_ hK.m, LB_ hK.b]
    refine mp_rightF hK.m (wrH rfl rfl) (by decide) (by decide) (t179_21 ?_)
    simp (disch := omega) only [vpT, nI_leI, nI_ltI, nI_eq, nleT, nleF, nltT, nltF, neqT, neqF, nI_add, pk_mul, subN, divN, nI_clamp, mI1, wrH, wrM1, wrM2, wrowH, wrowM, bI0, bI1, kIi, kVi, kRi, kLi, kIx, kVx, Option.some.injEq, exists_eq_left', true_and, and_true, true_implies, false_implies, implies_true, not_true_eq_false, not_false_eq_true, true_or, or_true, false_or, or_false, forall_eq, iteT, iteF, LK_ hK, LM_ hK.m, LB_ hK.b]
    exact ff h same.rf rfl
  obtain ⟨N, hNt, rfl⟩ := i_le (by omega) q1 q2
  have hN : N ≤ 500 := by omega
  simp (disch := omega) only [vpT, nI_leI, nI_ltI, nI_eq, nleT, nleF, nltT, nltF, neqT, neqF, nI_add, pk_mul, subN, divN, nI_clamp, mI1, wrH, wrM1, wrM2, wrowH, wrowM, bI0, bI1, kIi, kVi, kRi, kLi, kIx, kVx, Option.some.injEq, exists_eq_left', true_and, and_true, true_implies, false_implies, implies_true, not_true_eq_false, not_false_eq_true, true_or, or_true, false_or, or_false, forall_eq, iteT, iteF, LK_ hK, LM_ hK.m, LB_ hK.b]
  refine sp_read (B := fun j => I (x + 56) j) (N := N) hK (hW.fr fun a ha => wrM1 (by omega)) (fun j hj => by rw [wrM1 (by omega)]) hN fun I2 K S0 b hs2 hNew hCh hend hO hC hG => t62_22 ?_
  obtain ⟨Sx, hNew⟩ := hNew
  have p4 := hO.1.2.2.2.1
  have i2 : ∀ a, ¬ pB x a → a ≠ x → I2 a = I a := fun a h1 h2 => by rw [hs2 a h1, wrM1 h2]
  have x2 : ∀ j, j ≠ 7 → I2 x j = I x j := fun j hj => by rw [hs2 x (by omega), wrM2 hj]
  have x7 : I2 x 7 = nI 0 := by rw [hs2 x (by omega)]; exact wrH rfl rfl
  -- the model, from any heap that agrees
  have mod : ∀ (I3 : Nat → Nat → Int32) (J2 : Nat → Nat → Int64) (Q : oc → hp → Prop), (∀ a, x + 271 ≤ a ∨ a < x → I3 a = I a) → (∀ a, a < x → I3 a = I a) → (∀ I6 J6, same I3 I6 (fun a => a = x + 271 ∨ a = x + 271 + 2) → (∀ a, a ≠ x + 271 → J6 a = J2 a) → I6 (x + 271) 0 = nI 0 → I6 (x + 271) 7 = nI 0 → (∀ j, j = 5 ∨ j = 29 → I6 (x + 271) j = I (x + 271) j) → MR I6 J6 (fun j => I (x + 56) j) (x + 271) N b.1 → (b.1.2.2.2.2.1 = 0 → Rel (I6 (x + 271 + 2)) b.2.1 b.2.2.1 b.2.2.2 0) → Wp (cal (e + 39)) kc_179 [] Q (123, [some (.ref (x + 271)), some (.int (nI N)), none], [.int (bI (decide (b.1.2.2.2.2.1 = 0)))], (L, I6, J6, z, l, ex))) → cal (e + 40) 179 [.ref (x + 271), .int (nI N)] (L, I3, J2, z, l, ex) Q := by
    intro I3 J2 Q em el kk
    have m7 : I3 (x + 271) 7 = nI tp := by rw [em _ (by omega)]; exact b2
    refine e179 (t179_0 ?_)
    simp (disch := omega) only [vpT, nI_leI, nI_ltI, nI_eq, nleT, nleF, nltT, nltF, neqT, neqF, nI_add, pk_mul, subN, divN, nI_clamp, mI1, wrH, wrM1, wrM2, wrowH, wrowM, bI0, bI1, kIi, kVi, kRi, kLi, kIx, kVx, Option.some.injEq, exists_eq_left', true_and, and_true, true_implies, false_implies, implies_true, not_true_eq_false, not_false_eq_true, true_or, or_true, false_or, or_false, forall_eq, iteT, iteF, LK_ hK, LM_ hK.m, LB_ hK.b, m7]
    refine mp_inT (lo := nI 0) rfl rfl ⟨q1, q2⟩ (t179_17 ?_)
    simp (disch := omega) only [vpT, nI_leI, nI_ltI, nI_eq, nleT, nleF, nltT, nltF, neqT, neqF, nI_add, pk_mul, subN, divN, nI_clamp, mI1, wrH, wrM1, wrM2, wrowH, wrowM, bI0, bI1, kIi, kVi, kRi, kLi, kIx, kVx, Option.some.injEq, exists_eq_left', true_and, and_true, true_implies, false_implies, implies_true, not_true_eq_false, not_false_eq_true, true_or, or_true, false_or, or_false, forall_eq, iteT, iteF, LK_ hK, LM_ hK.m, LB_ hK.b]
    refine mp_rightT hK.m (wrH rfl rfl) (t179_21 ?_)
    simp (disch := omega) only [vpT, nI_leI, nI_ltI, nI_eq, nleT, nleF, nltT, nltF, neqT, neqF, nI_add, pk_mul, subN, divN, nI_clamp, mI1, wrH, wrM1, wrM2, wrowH, wrowM, bI0, bI1, kIi, kVi, kRi, kLi, kIx, kVx, Option.some.injEq, exists_eq_left', true_and, and_true, true_implies, false_implies, implies_true, not_true_eq_false, not_false_eq_true, true_or, or_true, false_or, or_false, forall_eq, iteT, iteF, LK_ hK, LM_ hK.m, LB_ hK.b]
    generalize hI4 : wr (wr (wr (wr (wr (wr I3 (x + 271) 0 (nI 0)) (x + 271) 8 (nI N)) (x + 271) 7 (nI 0)) (x + 271) 9 (nI 0)) (x + 271) 15 (nI 0)) (x + 271) 16 (-1) = I4
    have s4 : ∀ a, a ≠ x + 271 → I4 a = I3 a := fun a ha => by rw [← hI4, wrM1 ha, wrM1 ha, wrM1 ha, wrM1 ha, wrM1 ha, wrM1 ha]
    have f4 : ∀ j, j ≠ 0 → j ≠ 8 → j ≠ 7 → j ≠ 9 → j ≠ 15 → j ≠ 16 → I4 (x + 271) j = I3 (x + 271) j := fun j h1 h2 h3 h4 h5 h6 => by rw [← hI4, wrM2 h6, wrM2 h5, wrM2 h4, wrM2 h3, wrM2 h2, wrM2 h1]
    have g0 : I4 (x + 271) 0 = nI 0 := by rw [← hI4]; simp (disch := omega) only [vpT, nI_leI, nI_ltI, nI_eq, nleT, nleF, nltT, nltF, neqT, neqF, nI_add, pk_mul, subN, divN, nI_clamp, mI1, wrH, wrM1, wrM2, wrowH, wrowM, bI0, bI1, kIi, kVi, kRi, kLi, kIx, kVx, Option.some.injEq, exists_eq_left', true_and, and_true, true_implies, false_implies, implies_true, not_true_eq_false, not_false_eq_true, true_or, or_true, false_or, or_false, forall_eq, iteT, iteF, LK_ hK, LM_ hK.m, LB_ hK.b]
    have g8 : I4 (x + 271) 8 = nI N := by rw [← hI4]; simp (disch := omega) only [vpT, nI_leI, nI_ltI, nI_eq, nleT, nleF, nltT, nltF, neqT, neqF, nI_add, pk_mul, subN, divN, nI_clamp, mI1, wrH, wrM1, wrM2, wrowH, wrowM, bI0, bI1, kIi, kVi, kRi, kLi, kIx, kVx, Option.some.injEq, exists_eq_left', true_and, and_true, true_implies, false_implies, implies_true, not_true_eq_false, not_false_eq_true, true_or, or_true, false_or, or_false, forall_eq, iteT, iteF, LK_ hK, LM_ hK.m, LB_ hK.b]
    have g7 : I4 (x + 271) 7 = nI 0 := by rw [← hI4]; simp (disch := omega) only [vpT, nI_leI, nI_ltI, nI_eq, nleT, nleF, nltT, nltF, neqT, neqF, nI_add, pk_mul, subN, divN, nI_clamp, mI1, wrH, wrM1, wrM2, wrowH, wrowM, bI0, bI1, kIi, kVi, kRi, kLi, kIx, kVx, Option.some.injEq, exists_eq_left', true_and, and_true, true_implies, false_implies, implies_true, not_true_eq_false, not_false_eq_true, true_or, or_true, false_or, or_false, forall_eq, iteT, iteF, LK_ hK, LM_ hK.m, LB_ hK.b]
    have g9 : I4 (x + 271) 9 = nI 0 := by rw [← hI4]; simp (disch := omega) only [vpT, nI_leI, nI_ltI, nI_eq, nleT, nleF, nltT, nltF, neqT, neqF, nI_add, pk_mul, subN, divN, nI_clamp, mI1, wrH, wrM1, wrM2, wrowH, wrowM, bI0, bI1, kIi, kVi, kRi, kLi, kIx, kVx, Option.some.injEq, exists_eq_left', true_and, and_true, true_implies, false_implies, implies_true, not_true_eq_false, not_false_eq_true, true_or, or_true, false_or, or_false, forall_eq, iteT, iteF, LK_ hK, LM_ hK.m, LB_ hK.b]
    have g15 : I4 (x + 271) 15 = nI 0 := by rw [← hI4]; simp (disch := omega) only [vpT, nI_leI, nI_ltI, nI_eq, nleT, nleF, nltT, nltF, neqT, neqF, nI_add, pk_mul, subN, divN, nI_clamp, mI1, wrH, wrM1, wrM2, wrowH, wrowM, bI0, bI1, kIi, kVi, kRi, kLi, kIx, kVx, Option.some.injEq, exists_eq_left', true_and, and_true, true_implies, false_implies, implies_true, not_true_eq_false, not_false_eq_true, true_or, or_true, false_or, or_false, forall_eq, iteT, iteF, LK_ hK, LM_ hK.m, LB_ hK.b]
    have g16 : I4 (x + 271) 16 = -1 := by rw [← hI4]; simp (disch := omega) only [vpT, nI_leI, nI_ltI, nI_eq, nleT, nleF, nltT, nltF, neqT, neqF, nI_add, pk_mul, subN, divN, nI_clamp, mI1, wrH, wrM1, wrM2, wrowH, wrowM, bI0, bI1, kIi, kVi, kRi, kLi, kIx, kVx, Option.some.injEq, exists_eq_left', true_and, and_true, true_implies, false_implies, implies_true, not_true_eq_false, not_false_eq_true, true_or, or_true, false_or, or_false, forall_eq, iteT, iteF, LK_ hK, LM_ hK.m, LB_ hK.b]
    refine mp_clears (a := x + 271 + 2) (LM_ hK.m).2.1.2.1 (LM_ hK.m).2.2.2.1 fun I5 s5 hc5 => t179_58 ?_
    have e5 : I5 (x + 271) = I4 (x + 271) := s5 _ (by omega)
    have hB5 : ∀ j, j < N → I5 (x + 271 + 5) j = (fun j => I (x + 56) j) j := fun j hj => by rw [s5 _ (by omega), s4 _ (by omega), em _ (by omega)]; exact (b4 j (by omega)).1.symm
    have hbt : ∀ j, j < N → byt ((fun j => I (x + 56) j) j) := fun j hj => (b4 j (by omega)).2
    have hW5 : WS L I5 x := hW.fr fun a ha => by rw [s5 a (by omega), s4 a (by omega), el a ha]
    simp (disch := omega) only [vpT, nI_leI, nI_ltI, nI_eq, nleT, nleF, nltT, nltF, neqT, neqF, nI_add, pk_mul, subN, divN, nI_clamp, mI1, wrH, wrM1, wrM2, wrowH, wrowM, bI0, bI1, kIi, kVi, kRi, kLi, kIx, kVx, Option.some.injEq, exists_eq_left', true_and, and_true, true_implies, false_implies, implies_true, not_true_eq_false, not_false_eq_true, true_or, or_true, false_or, or_false, forall_eq, iteT, iteF, LK_ hK, LM_ hK.m, LB_ hK.b]
    refine mp_goes0 (p := 0) hK hB5 hbt hN (Nat.zero_le _) (by rw [e5]; exact g8) (by rw [e5]; exact g9) (by rw [e5]; exact g15) (by rw [e5]; exact g16) fun I6 J6 s6 sJ f6 hM6 => ?_
    refine mp_chain (a := (lex (fun j => I (x + 56) j) N 0, S0, 0, 0)) (I := I5) (J2 := J2) hK hW5 hB5 hbt hN K b hCh (fun I7 J7 u7 hM7 hR7 => ?_) I6 J6 ⟨s6.up fun a q => Or.inl q, sJ, fun j hj => f6 j (by omega)⟩ hM6 fun _ => ?_
    · have u0 : I7 (x + 271) 0 = nI 0 := by rw [u7.2.2 0 (by omega), e5]; exact g0
      have u77 : I7 (x + 271) 7 = nI 0 := by rw [u7.2.2 7 (by omega), e5]; exact g7
      have out := kk I7 J7 (fun a ha => by rw [u7.1 a (by omega), s5 a (by omega), s4 a (by omega)]) u7.2.1 u0 u77 (fun j hj => by rw [u7.2.2 j (by omega), e5, f4 j (by omega) (by omega) (by omega) (by omega) (by omega) (by omega), em _ (by omega)]) hM7 fun w => (hR7 w).2
      refine t179_62 ?_
      simp (disch := omega) only [vpT, nI_leI, nI_ltI, nI_eq, nleT, nleF, nltT, nltF, neqT, neqF, nI_add, pk_mul, subN, divN, nI_clamp, mI1, wrH, wrM1, wrM2, wrowH, wrowM, bI0, bI1, kIi, kVi, kRi, kLi, kIx, kVx, Option.some.injEq, exists_eq_left', true_and, and_true, true_implies, false_implies, implies_true, not_true_eq_false, not_false_eq_true, true_or, or_true, false_or, or_false, forall_eq, iteT, iteF, LK_ hK, LM_ hK.m, LB_ hK.b]
      refine mp_fine hK hM7 hO (t179_66 ?_)
      have fin : cal (e + 39) 185 [.ref (x + 271)] (L, I7, J7, z, l, ex) (kI (fun r h2 => Wp (cal (e + 39)) kc_179 [] Q (123, [some (.ref (x + 271)), some (.int (nI N)), none], [.int r], h2)) (fun e h2 => Q (.inr e) h2)) := mp_fine hK hM7 hO out
      by_cases w : b.1.2.2.2.2.1 = 0
      · have t3 := hend.resolve_left fun q => q w
        have e11 : I7 (x + 271) 11 = nI 1003 := by rw [hM7.2.2.2.1, t3, mtk3]
        rw [decide_eq_true w, bI_t]
        simp (disch := omega) only [vpT, nI_leI, nI_ltI, nI_eq, nleT, nleF, nltT, nltF, neqT, neqF, nI_add, pk_mul, subN, divN, nI_clamp, mI1, wrH, wrM1, wrM2, wrowH, wrowM, bI0, bI1, kIi, kVi, kRi, kLi, kIx, kVx, Option.some.injEq, exists_eq_left', true_and, and_true, true_implies, false_implies, implies_true, not_true_eq_false, not_false_eq_true, true_or, or_true, false_or, or_false, forall_eq, iteT, iteF, LK_ hK, LM_ hK.m, LB_ hK.b, e11]
        exact fin
      · rw [decide_eq_false w, bI_f]
        simp (disch := omega) only [vpT, nI_leI, nI_ltI, nI_eq, nleT, nleF, nltT, nltF, neqT, neqF, nI_add, pk_mul, subN, divN, nI_clamp, mI1, wrH, wrM1, wrM2, wrowH, wrowM, bI0, bI1, kIi, kVi, kRi, kLi, kIx, kVx, Option.some.injEq, exists_eq_left', true_and, and_true, true_implies, false_implies, implies_true, not_true_eq_false, not_false_eq_true, true_or, or_true, false_or, or_false, forall_eq, iteT, iteF, LK_ hK, LM_ hK.m, LB_ hK.b]
        exact fin
    · have row : I6 (x + 271 + 2) = I5 (x + 271 + 2) := s6 _ (by omega)
      rw [row]
      exact ⟨by rw [hc5.1 188 (by decide) (by decide) (by decide), if_neg (by decide)], New_Rel hNew hc5⟩
  have c57 := hC.2.2.2.2.2.2
  by_cases w : b.1.2.2.2.2.1 = 0
  · rw [w]
    obtain ⟨g1, g2⟩ := hG w
    simp (disch := omega) only [vpT, nI_leI, nI_ltI, nI_eq, nleT, nleF, nltT, nltF, neqT, neqF, nI_add, pk_mul, subN, divN, nI_clamp, mI1, wrH, wrM1, wrM2, wrowH, wrowM, bI0, bI1, kIi, kVi, kRi, kLi, kIx, kVx, Option.some.injEq, exists_eq_left', true_and, and_true, true_implies, false_implies, implies_true, not_true_eq_false, not_false_eq_true, true_or, or_true, false_or, or_false, forall_eq, iteT, iteF, LK_ hK, LM_ hK.m, LB_ hK.b]
    refine sp_copyFrom hK.b hK.p.b (by omega) fun I3 hs3 hA3 => t62_62 ?_
    have eb : bd (wr I2 x 8 (-1)) (x + 28 + 2) = b.2.1 := by rw [← g1]; exact bd_same fun a r1 r2 => wrM1 (by omega)
    rw [eb] at hA3
    simp (disch := omega) only [vpT, nI_leI, nI_ltI, nI_eq, nleT, nleF, nltT, nltF, neqT, neqF, nI_add, pk_mul, subN, divN, nI_clamp, mI1, wrH, wrM1, wrM2, wrowH, wrowM, bI0, bI1, kIi, kVi, kRi, kLi, kIx, kVx, Option.some.injEq, exists_eq_left', true_and, and_true, true_implies, false_implies, implies_true, not_true_eq_false, not_false_eq_true, true_or, or_true, false_or, or_false, forall_eq, iteT, iteF, LK_ hK, LM_ hK.m, LB_ hK.b]
    refine sp_forget hK.a (t62_69 ?_)
    simp (disch := omega) only [vpT, nI_leI, nI_ltI, nI_eq, nleT, nleF, nltT, nltF, neqT, neqF, nI_add, pk_mul, subN, divN, nI_clamp, mI1, wrH, wrM1, wrM2, wrowH, wrowM, bI0, bI1, kIi, kVi, kRi, kLi, kIx, kVx, Option.some.injEq, exists_eq_left', true_and, and_true, true_implies, false_implies, implies_true, not_true_eq_false, not_false_eq_true, true_or, or_true, false_or, or_false, forall_eq, iteT, iteF, LK_ hK, LM_ hK.m, LB_ hK.b]
    generalize hI4 : wr I3 (x + 58) 2 (nI 0) = I4
    have e4 : ∀ a, a ≠ x + 58 → I4 a = I3 a := fun a ha => by rw [← hI4, wrM1 ha]
    have a4 : I4 (x + 58) 2 = nI 0 := by rw [← hI4]; exact wrH rfl rfl
    have a41 : I4 (x + 58) 1 = nI fi := by rw [← hI4, wrM2 (by omega), hs3 _ (by omega), wrM1 (by omega), i2 _ (by omega) (by omega)]; exact c1
    have e3 : ∀ a, ¬ (x + 1 + 2 ≤ a ∧ a ≤ x + 1 + 2 + 12) → a ≠ x → a ≠ x + 58 → ¬ pB x a → I4 a = I a := fun a h1 h2 h3 h4 => by rw [e4 a h3, hs3 a h1, wrM1 h2, i2 a h4 h2]
    have ex7 : I4 x 7 = nI 0 := by rw [e4 x (by omega), hs3 x (by omega), wrM2 (by omega)]; exact x7
    have ex8 : I4 x 8 = -1 := by rw [e4 x (by omega), hs3 x (by omega)]; exact wrH rfl rfl
    have eb4 : bd I4 (x + 1 + 2) = bd I3 (x + 1 + 2) := bd_same fun a r1 r2 => e4 a (by omega)
    refine ⟨I4, J, rfl, (by first | exact h.2.2.2.2 | exact fun a ha => (em a (Or.inr ha)).trans (h.2.2.2.2 a ha) | exact fun a ha => (em2 a (Or.inr ha)).trans (h.2.2.2.2 a ha) | exact fun a ha => (hs a (by omega)).trans (h.2.2.2.2 a ha) | exact fun a ha => (wrM1 (by omega)).trans ((em a (Or.inr ha)).trans (h.2.2.2.2 a ha)) | exact fun a ha => (e3 a (by omega)).trans ((em a (Or.inr ha)).trans (h.2.2.2.2 a ha)) | exact fun a ha => (cs a (by omega) (by omega)).trans (h.2.2.2.2 a ha) | exact fun a ha => (hs2 a (by omega)).trans (h.2.2.2.2 a ha) | exact fun a ha => (e3 a (by omega) (by omega)).trans (h.2.2.2.2 a ha) | exact fun a ha => (e3 a (by omega) (by omega) (by omega) (by omega)).trans (h.2.2.2.2 a ha) | exact fun a ha => (hs5 a (by omega)).trans ((hs4' a (by omega)).trans ((hs3' a (by omega)).trans ((hs2 a (by omega)).trans (h.2.2.2.2 a ha)))) | (intro a ha; (try rw [wrM1 (by omega)]); (try rw [hs6 a (by omega)]); (try rw [hs5 a (by omega)]); (try rw [e5 a (by omega)]); (try rw [hs4 a (by omega)]); (try rw [e4 a (by omega)]); (try rw [hs3 a (by omega)]); (try rw [e3 a (by omega)]); (try rw [wrM1 (by omega)]); (try rw [hs2 a (by omega)]); (try rw [e2 a (by omega)]); (try rw [em2 a (Or.inr ha)]); (try rw [cs a (by omega) (by omega)]); (try rw [hs1 a (by omega)]); (try rw [hs a (by omega)]); (try rw [em a (Or.inr ha)]); exact h.2.2.2.2 a ha)), fun J2 => mod I4 J2 _ (fun a ha => e3 a (by omega) (by omega) (by omega) (by omega)) (fun a ha => e3 a (by omega) (by omega) (by omega) (by omega)) fun I6 J6 s6 sJ m0 m7 mf hM6 hR6 => t179_123 ?_⟩
    have hR6 := hR6 w
    have m16 : I6 (x + 271) 16 = -1 := by rw [hM6.2.2.2.2.2.2.2, if_pos w]
    rw [decide_eq_true w, bI_t]
    simp (disch := omega) only [vpT, nI_leI, nI_ltI, nI_eq, nleT, nleF, nltT, nltF, neqT, neqF, nI_add, pk_mul, subN, divN, nI_clamp, mI1, wrH, wrM1, wrM2, wrowH, wrowM, bI0, bI1, kIi, kVi, kRi, kLi, kIx, kVx, Option.some.injEq, exists_eq_left', true_and, and_true, true_implies, false_implies, implies_true, not_true_eq_false, not_false_eq_true, true_or, or_true, false_or, or_false, forall_eq, iteT, iteF, LK_ hK, LM_ hK.m, LB_ hK.b]
    have hV' := g2.ag hA3
    have hn' := g2.1.1.1.2
    have hsn' := g2.1.1.2.1.2
    refine lg (n := 189) (fun i lv h => ∃ I7, lv = [some (.ref (x + 271)), some (.int (nI N)), some (.int (nI i))] ∧ h = (L, I7, J6, z, l, ex) ∧ same I6 I7 (fun a => a = x + 271 + 1) ∧ ∀ j, j < i → I7 (x + 271 + 1) j = I6 (x + 271 + 2) j) ?_ ?_ (Nat.zero_le _) _ _ ⟨I6, rfl, rfl, same.rf, fun j hj => absurd hj (Nat.not_lt_zero _)⟩
    · rintro i hi ih _ _ ⟨I7, rfl, rfl, s7, r7⟩
      have e2 : I7 (x + 271 + 2) = I6 (x + 271 + 2) := s7 _ (by omega)
      refine t179_133 ?_
      simp (disch := omega) only [vpT, nI_leI, nI_ltI, nI_eq, nleT, nleF, nltT, nltF, neqT, neqF, nI_add, pk_mul, subN, divN, nI_clamp, mI1, wrH, wrM1, wrM2, wrowH, wrowM, bI0, bI1, kIi, kVi, kRi, kLi, kIx, kVx, Option.some.injEq, exists_eq_left', true_and, and_true, true_implies, false_implies, implies_true, not_true_eq_false, not_false_eq_true, true_or, or_true, false_or, or_false, forall_eq, iteT, iteF, LK_ hK, LM_ hK.m, LB_ hK.b, e2]
      refine ih _ _ ⟨_, rfl, rfl, fun a ha => by rw [wrM1 ha]; exact s7 a ha, fun j hj => ?_⟩
      by_cases q : j = i
      · rw [wrH rfl q, q]
      · rw [wrM2 q]; exact r7 j (by omega)
    · rintro _ _ ⟨I7, rfl, rfl, s7, r7⟩
      refine t179_133 ?_
      simp (disch := omega) only [vpT, nI_leI, nI_ltI, nI_eq, nleT, nleF, nltT, nltF, neqT, neqF, nI_add, pk_mul, subN, divN, nI_clamp, mI1, wrH, wrM1, wrM2, wrowH, wrowM, bI0, bI1, kIi, kVi, kRi, kLi, kIx, kVx, Option.some.injEq, exists_eq_left', true_and, and_true, true_implies, false_implies, implies_true, not_true_eq_false, not_false_eq_true, true_or, or_true, false_or, or_false, forall_eq, iteT, iteF, LK_ hK, LM_ hK.m, LB_ hK.b]
      generalize hI8 : wr I7 (x + 271) 5 (nI 0) = I8
      have e8 : ∀ a, a ≠ x + 271 → I8 a = I7 a := fun a ha => by rw [← hI8, wrM1 ha]
      have m8 : ∀ j, j ≠ 5 → I8 (x + 271) j = I6 (x + 271) j := fun j hj => by rw [← hI8, wrM2 hj, s7 _ (by omega)]
      have cl : ∀ a, a ≠ x + 271 → a ≠ x + 271 + 1 → a ≠ x + 271 + 2 → I8 a = I4 a := fun a h1 h2 h3 => by rw [e8 a h1, s7 a h2, s6 a (by omega)]
      have eb8 : bd I8 (x + 1 + 2) = bd I3 (x + 1 + 2) := by rw [← eb4]; exact bd_same fun a r1 r2 => cl a (by omega) (by omega) (by omega)
      refine ⟨I8, J6, rfl, by rw [m8 0 (by omega)]; exact m0, sJ _ (by omega), b.2.2.1, b.2.2.2, 0, 0, fi, 0, sd, ⟨?_, ?_⟩, ⟨?_, ?_, by omega, fun k hk => ?_, ?_⟩, ⟨?_, ?_, ?_, c4, by omega, fun i hi => absurd hi (Nat.not_lt_zero _)⟩, ⟨?_, ?_, d3, fun k hk => ?_⟩, fun a ha => ?_⟩
      · rw [eb8]; exact hV'
      · rw [eb8, e8 _ (by omega)]; exact (hR6.congr hn' hsn' (by decide) r7).ag hn' hsn' (by decide) hA3
      · rw [cl x (by omega) (by omega) (by omega)]; exact ex7
      · rw [m8 7 (by omega)]; exact m7
      · rw [cl (x + 56) (by omega) (by omega) (by omega), e3 (x + 56) (by omega) (by omega) (by omega) (by omega), cl (x + 271 + 5) (by omega) (by omega) (by omega), e3 (x + 271 + 5) (by omega) (by omega) (by omega) (by omega)]; exact b4 k hk
      · rw [cl x (by omega) (by omega) (by omega), ex8, m8 16 (by omega), m16]
      · rw [cl _ (by omega) (by omega) (by omega)]; exact a41
      · rw [cl _ (by omega) (by omega) (by omega)]; exact a4
      · rw [← hI8]; exact wrH rfl rfl
      · rw [cl _ (by omega) (by omega) (by omega), e3 _ (by omega) (by omega) (by omega) (by omega)]; exact d1
      · rw [m8 29 (by omega), mf 29 (by omega)]; exact d2
      · rw [cl (x + 269) (by omega) (by omega) (by omega), e3 (x + 269) (by omega) (by omega) (by omega) (by omega), cl (x + 271 + 9) (by omega) (by omega) (by omega), e3 (x + 271 + 9) (by omega) (by omega) (by omega) (by omega)]; exact d4 k hk
      · rw [cl a (by omega) (by omega) (by omega), e3 a (by omega) (by omega) (by omega) (by omega)]; exact e1 a ha
  · have nw : (nI b.1.2.2.2.2.1 = nI 0) = False := by rw [nI_eq (by omega) (by decide)]; exact eq_false w
    have c8 := c57 w
    have e57 : I2 (x + 57) 8 = nI b.1.2.2.2.2.2 := c8
    simp (disch := omega) only [vpT, nI_leI, nI_ltI, nI_eq, nleT, nleF, nltT, nltF, neqT, neqF, nI_add, pk_mul, subN, divN, nI_clamp, mI1, wrH, wrM1, wrM2, wrowH, wrowM, bI0, bI1, kIi, kVi, kRi, kLi, kIx, kVx, Option.some.injEq, exists_eq_left', true_and, and_true, true_implies, false_implies, implies_true, not_true_eq_false, not_false_eq_true, true_or, or_true, false_or, or_false, forall_eq, iteT, iteF, LK_ hK, LM_ hK.m, LB_ hK.b, e57]
    generalize hI4 : wr I2 x 8 (nI b.1.2.2.2.2.2) = I4
    have e4 : ∀ a, a ≠ x → I4 a = I2 a := fun a ha => by rw [← hI4, wrM1 ha]
    have e3 : ∀ a, a ≠ x → ¬ pB x a → I4 a = I a := fun a h2 h4 => by rw [e4 a h2, i2 a h4 h2]
    have ex7 : I4 x 7 = nI 0 := by rw [← hI4, wrM2 (by omega)]; exact x7
    have ex8 : I4 x 8 = nI b.1.2.2.2.2.2 := by rw [← hI4]; exact wrH rfl rfl
    refine ⟨I4, J, rfl, (by first | exact h.2.2.2.2 | exact fun a ha => (em a (Or.inr ha)).trans (h.2.2.2.2 a ha) | exact fun a ha => (em2 a (Or.inr ha)).trans (h.2.2.2.2 a ha) | exact fun a ha => (hs a (by omega)).trans (h.2.2.2.2 a ha) | exact fun a ha => (wrM1 (by omega)).trans ((em a (Or.inr ha)).trans (h.2.2.2.2 a ha)) | exact fun a ha => (e3 a (by omega)).trans ((em a (Or.inr ha)).trans (h.2.2.2.2 a ha)) | exact fun a ha => (cs a (by omega) (by omega)).trans (h.2.2.2.2 a ha) | exact fun a ha => (hs2 a (by omega)).trans (h.2.2.2.2 a ha) | exact fun a ha => (e3 a (by omega) (by omega)).trans (h.2.2.2.2 a ha) | exact fun a ha => (e3 a (by omega) (by omega) (by omega) (by omega)).trans (h.2.2.2.2 a ha) | exact fun a ha => (hs5 a (by omega)).trans ((hs4' a (by omega)).trans ((hs3' a (by omega)).trans ((hs2 a (by omega)).trans (h.2.2.2.2 a ha)))) | (intro a ha; (try rw [wrM1 (by omega)]); (try rw [hs6 a (by omega)]); (try rw [hs5 a (by omega)]); (try rw [e5 a (by omega)]); (try rw [hs4 a (by omega)]); (try rw [e4 a (by omega)]); (try rw [hs3 a (by omega)]); (try rw [e3 a (by omega)]); (try rw [wrM1 (by omega)]); (try rw [hs2 a (by omega)]); (try rw [e2 a (by omega)]); (try rw [em2 a (Or.inr ha)]); (try rw [cs a (by omega) (by omega)]); (try rw [hs1 a (by omega)]); (try rw [hs a (by omega)]); (try rw [em a (Or.inr ha)]); exact h.2.2.2.2 a ha)), fun J2 => mod I4 J2 _ (fun a ha => e3 a (by omega) (by omega)) (fun a ha => e3 a (by omega) (by omega)) fun I6 J6 s6 sJ m0 m7 mf hM6 hR6 => t179_123 ?_⟩
    rw [decide_eq_false w, bI_f]
    have m15 := hM6.2.2.2.2.2.2.1
    have m16 : I6 (x + 271) 16 = nI b.1.2.2.2.2.2 := by rw [hM6.2.2.2.2.2.2.2, if_neg w]
    simp (disch := omega) only [vpT, nI_leI, nI_ltI, nI_eq, nleT, nleF, nltT, nltF, neqT, neqF, nI_add, pk_mul, subN, divN, nI_clamp, mI1, wrH, wrM1, wrM2, wrowH, wrowM, bI0, bI1, kIi, kVi, kRi, kLi, kIx, kVx, Option.some.injEq, exists_eq_left', true_and, and_true, true_implies, false_implies, implies_true, not_true_eq_false, not_false_eq_true, true_or, or_true, false_or, or_false, forall_eq, iteT, iteF, LK_ hK, LM_ hK.m, LB_ hK.b, m15]
    have cl : ∀ a, a ≠ x + 271 → a ≠ x + 271 + 2 → I6 a = I4 a := fun a h1 h3 => s6 a (by omega)
    have eb8 : bd I6 (x + 1 + 2) = bd I (x + 1 + 2) := bd_same fun a r1 r2 => by rw [cl a (by omega) (by omega), e3 a (by omega) (by omega)]
    refine ⟨I6, J6, rfl, m0, sJ _ (by omega), n, sn, dn, ac, fi, 0, sd, ⟨?_, ?_⟩, ⟨?_, m7, by omega, fun k hk => ?_, ?_⟩, ⟨?_, ?_, ?_, c4, c5, ?_⟩, ⟨?_, ?_, d3, fun k hk => ?_⟩, fun a ha => ?_⟩
    · rw [eb8]; exact a1
    · rw [eb8, cl _ (by omega) (by omega), e3 _ (by omega) (by omega)]; exact a2
    · rw [cl x (by omega) (by omega)]; exact ex7
    · rw [cl (x + 56) (by omega) (by omega), e3 (x + 56) (by omega) (by omega), cl (x + 271 + 5) (by omega) (by omega), e3 (x + 271 + 5) (by omega) (by omega)]; exact b4 k hk
    · rw [cl x (by omega) (by omega), ex8, m16]
    · rw [cl _ (by omega) (by omega), e3 _ (by omega) (by omega)]; exact c1
    · rw [cl _ (by omega) (by omega), e3 _ (by omega) (by omega)]; exact c2
    · rw [mf 5 (by omega)]; exact c3
    · exact c6.fr (fun a r1 r2 => by rw [cl a (by omega) (by omega), e3 a (by omega) (by omega)]) (by rw [cl _ (by omega) (by omega), e3 _ (by omega) (by omega)])
    · rw [cl _ (by omega) (by omega), e3 _ (by omega) (by omega)]; exact d1
    · rw [mf 29 (by omega)]; exact d2
    · rw [cl (x + 269) (by omega) (by omega), e3 (x + 269) (by omega) (by omega), cl (x + 271 + 9) (by omega) (by omega), e3 (x + 271 + 9) (by omega) (by omega)]; exact d4 k hk
    · rw [cl a (by omega) (by omega), e3 a (by omega) (by omega)]; exact e1 a ha
end BOARD2
