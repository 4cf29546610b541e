/-! Numbers and sorts, read by both. -/
section PURE
variable {B : Nat → Int32} {N : Nat} {P : PS} {lo hi : Nat}
theorem rfs_n {k : Nat} (h : P.2.2.2.2.1 ≠ 0) : rfs P k = P := if_neg h
theorem rfs_f {k : Nat} (h : P.2.2.2.2.1 = 0) : (rfs P k).2.2.2.2.1 = k := by unfold rfs; rw [if_pos h]
theorem pst_n (h : P.2.2.2.2.1 ≠ 0) : pst B N P = P := if_neg h
theorem lex_0 {p : Nat} : (lex B N p).2.2.2.2.1 = 0 := by
  unfold lex
  split <;> rfl
theorem pst_0 (h : P.2.2.2.2.1 = 0) : (pst B N P).2.2.2.2.1 = 0 := by unfold pst; rw [if_pos h]; exact lex_0
theorem pst_ft : (pst B N P).2.2.2.2.1 = 0 ↔ P.2.2.2.2.1 = 0 := by
  refine ⟨fun h => ?_, pst_0⟩
  by_cases q : P.2.2.2.2.1 = 0
  · exact q
  · rw [pst_n q] at h; exact h
theorem nmE_n (h : P.2.2.2.2.1 ≠ 0) : nmE P lo hi = P := by
  unfold nmE
  split
  · split
    · exact rfs_n h
    · rfl
  · exact rfs_n h
theorem nmP_n (h : P.2.2.2.2.1 ≠ 0) : nmP B N P lo hi = P := by
  unfold nmP
  rw [nmE_n h, pst_n h]
theorem nmP_0 (h : (nmP B N P lo hi).2.2.2.2.1 = 0) : P.2.2.2.2.1 = 0 ∧ P.1 = 1 ∧ lo ≤ P.2.2.2.1 ∧ P.2.2.2.1 ≤ hi := by
  have h := pst_ft.mp h
  by_cases f0 : P.2.2.2.2.1 = 0
  · unfold nmE at h
    split at h
    · rename_i q
      split at h
      · rw [rfs_f f0] at h; cases h
      · rename_i q2
        exact ⟨f0, q, by omega, by omega⟩
    · rw [rfs_f f0] at h; cases h
  · rw [nmE_n f0] at h
    exact absurd h f0
theorem OKP.nm (h : OKP B N P) : OKP B N (nmP B N P lo hi) := by
  unfold nmP
  refine OKP.pst ?_
  unfold nmE
  split
  · split
    · exact h.rfs (by decide)
    · exact h
  · exact h.rfs (by decide)
def soE (B : Nat → Int32) (P : PS) : PS := if (iw B P 1 || iw B P 2) = true then P else rfs P 1
def soP (B : Nat → Int32) (N : Nat) (P : PS) : PS := nmP B N (pst B N (soE B P)) 0 3
def soV (B : Nat → Int32) (N : Nat) (P : PS) : Nat := 2 * (pst B N (soE B P)).2.2.2.1 + (if iw B P 1 = true then 1 else 0)
theorem soE_n (h : P.2.2.2.2.1 ≠ 0) : soE B P = P := by
  unfold soE
  split
  · rfl
  · exact rfs_n h
theorem soP_n (h : P.2.2.2.2.1 ≠ 0) : soP B N P = P := by
  unfold soP
  rw [soE_n h, pst_n h, nmP_n h]
theorem soP_0 (h : (soP B N P).2.2.2.2.1 = 0) : P.2.2.2.2.1 = 0 ∧ soV B N P < 8 := by
  obtain ⟨a1, a2, a3, a4⟩ := nmP_0 h
  have a1 := pst_ft.mp a1
  refine ⟨?_, ?_⟩
  · by_cases q : P.2.2.2.2.1 = 0
    · exact q
    · rw [soE_n q] at a1; exact a1
  · unfold soV
    split <;> omega
theorem OKP.so (h : OKP B N P) : OKP B N (soP B N P) := by
  unfold soP
  refine OKP.nm (OKP.pst ?_)
  unfold soE
  split
  · exact h
  · exact h.rfs (by decide)
end PURE
section NUMS
variable {I : Nat → Nat → Int32} {J : Nat → Nat → Int64} {L : hL} {x N lo hi : Nat} {B : Nat → Int32} {P : PS} {t : tl} {F : Int32 → hp → Prop} {G : hp → Prop} {X : Nat → hp → Prop} {d : Nat}
--facts LK_ hK, LM_ hK.m
theorem sp_number (hK : LK L x) (hB : ∀ j, j < N → I (x + 56) j = B j) (hN : N ≤ 500) (hC : CR I x N P) (hP : OKP B N P) (hlo : lo ≤ 2000) (hhi : hi ≤ 1999) (k : ∀ I2 r, same I I2 (fun a => a = x + 57) → CR I2 x N (nmP B N P lo hi) → r = (if (nmP B N P lo hi).2.2.2.2.1 = 0 then P.2.2.2.1 else lo) → F (nI r) (L, I2, J, t)) : cal (d + 3) 73 [.ref (x + 57), .int (nI lo), .int (nI hi)] (L, I, J, t) (kI F X) := by
  have fin : ∀ I2 (x3 : Int32), same I I2 (fun a => a = x + 57) → CR I2 x N (nmE P lo hi) → OKP B N (nmE P lo hi) → ((nmP B N P lo hi).2.2.2.2.1 = 0 → x3 = nI P.2.2.2.1) → Wp (cal (d + 2)) kc_73 [] (kI F X) (36, [some (.ref (x + 57)), some (.int (nI lo)), some (.int (nI hi)), some (.int x3)], [], (L, I2, J, t)) := by
    intro I2 x3 hs2 hC2 hO2 hx
    refine t73_36 ?_
    simp (disch := omega) only [vpT, nI_leI, nI_ltI, nI_eq, nleT, nleF, nltT, nltF, neqT, neqF, nI_add, pk_mul, subN, divN, nI_clamp, mI1, wrH, wrM1, wrM2, wrowH, wrowM, bI0, bI1, kIi, kVi, kRi, kLi, kIx, kVx, Option.some.injEq, exists_eq_left', true_and, and_true, true_implies, false_implies, implies_true, not_true_eq_false, not_false_eq_true, true_or, or_true, false_or, or_false, forall_eq, iteT, iteF, LK_ hK, LM_ hK.m]
    refine sp_step hK (fun j hj => by rw [hs2 _ (by omega)]; exact hB j hj) hN hC2 hO2.1 fun I3 hs3 hC3 => t73_40 ?_
    have c7 := hC3.2.2.2.2.2.1
    have p4 : (nmP B N P lo hi).2.2.2.2.1 ≤ 3 := (hP.nm (lo := lo) (hi := hi)).1.2.2.2.1
    have hC4 : CR I3 x N (nmP B N P lo hi) := hC3
    have c7 : I3 (x + 57) 7 = nI (nmP B N P lo hi).2.2.2.2.1 := c7
    by_cases f0 : (nmP B N P lo hi).2.2.2.2.1 = 0
    · have e := hx f0
      rw [f0] at c7
      simp (disch := omega) only [vpT, nI_leI, nI_ltI, nI_eq, nleT, nleF, nltT, nltF, neqT, neqF, nI_add, pk_mul, subN, divN, nI_clamp, mI1, wrH, wrM1, wrM2, wrowH, wrowM, bI0, bI1, kIi, kVi, kRi, kLi, kIx, kVx, Option.some.injEq, exists_eq_left', true_and, and_true, true_implies, false_implies, implies_true, not_true_eq_false, not_false_eq_true, true_or, or_true, false_or, or_false, forall_eq, iteT, iteF, LK_ hK, LM_ hK.m, c7]
      rw [e]
      exact k I3 _ (hs2.tr hs3) hC4 (by rw [if_pos f0])
    · simp (disch := omega) only [vpT, nI_leI, nI_ltI, nI_eq, nleT, nleF, nltT, nltF, neqT, neqF, nI_add, pk_mul, subN, divN, nI_clamp, mI1, wrH, wrM1, wrM2, wrowH, wrowM, bI0, bI1, kIi, kVi, kRi, kLi, kIx, kVx, Option.some.injEq, exists_eq_left', true_and, and_true, true_implies, false_implies, implies_true, not_true_eq_false, not_false_eq_true, true_or, or_true, false_or, or_false, forall_eq, iteT, iteF, LK_ hK, LM_ hK.m, c7]
      exact k I3 _ (hs2.tr hs3) hC4 (by rw [if_neg f0])
  have p4 := hP.1.2.2.2.1
  have p3 := hP.1.2.2.1
  refine e73 (t73_0 ?_)
  by_cases q1 : P.1 = 1
  · obtain ⟨c, hc, ec, e1, e2⟩ := hC.2.2.2.2.1 q1
    have c4 : I (x + 57) 4 = nI 1 := by rw [hC.2.2.1, q1]
    by_cases q2 : P.2.2.2.1 < lo ∨ hi < P.2.2.2.1
    · have eE : nmE P lo hi = rfs P 2 := by unfold nmE; rw [if_pos q1, if_pos q2]
      have go : ∀ x3, cal (d + 2) 72 [.ref (x + 57), .int (nI 2)] (L, I, J, t) (kV (fun h2 => Wp (cal (d + 2)) kc_73 [] (kI F X) (36, [some (.ref (x + 57)), some (.int (nI lo)), some (.int (nI hi)), some (.int x3)], [], h2)) (fun e h2 => kI F X (.inr e) h2)) := fun x3 => sp_refuse (P := P) (B := B) (N := N) hK hC hP fun I2 hs2 hC2 => fin I2 x3 hs2 (by rw [eE]; exact hC2) (by rw [eE]; exact hP.rfs (by decide)) fun w => by
        have := (nmP_0 w).2.2
        omega
      by_cases q3 : c < lo
      · simp (disch := omega) only [vpT, nI_leI, nI_ltI, nI_eq, nleT, nleF, nltT, nltF, neqT, neqF, nI_add, pk_mul, subN, divN, nI_clamp, mI1, wrH, wrM1, wrM2, wrowH, wrowM, bI0, bI1, kIi, kVi, kRi, kLi, kIx, kVx, Option.some.injEq, exists_eq_left', true_and, and_true, true_implies, false_implies, implies_true, not_true_eq_false, not_false_eq_true, true_or, or_true, false_or, or_false, forall_eq, iteT, iteF, LK_ hK, LM_ hK.m, c4, ec]
        exact go _
      · have q4 : hi < c := by
          by_cases w : c < 100000
          · have := e2 w; omega
          · omega
        simp (disch := omega) only [vpT, nI_leI, nI_ltI, nI_eq, nleT, nleF, nltT, nltF, neqT, neqF, nI_add, pk_mul, subN, divN, nI_clamp, mI1, wrH, wrM1, wrM2, wrowH, wrowM, bI0, bI1, kIi, kVi, kRi, kLi, kIx, kVx, Option.some.injEq, exists_eq_left', true_and, and_true, true_implies, false_implies, implies_true, not_true_eq_false, not_false_eq_true, true_or, or_true, false_or, or_false, forall_eq, iteT, iteF, LK_ hK, LM_ hK.m, c4, ec]
        exact go _
    · have eE : nmE P lo hi = P := by unfold nmE; rw [if_pos q1, if_neg q2]
      have ecv : c = P.2.2.2.1 := e1 (by omega)
      simp (disch := omega) only [vpT, nI_leI, nI_ltI, nI_eq, nleT, nleF, nltT, nltF, neqT, neqF, nI_add, pk_mul, subN, divN, nI_clamp, mI1, wrH, wrM1, wrM2, wrowH, wrowM, bI0, bI1, kIi, kVi, kRi, kLi, kIx, kVx, Option.some.injEq, exists_eq_left', true_and, and_true, true_implies, false_implies, implies_true, not_true_eq_false, not_false_eq_true, true_or, or_true, false_or, or_false, forall_eq, iteT, iteF, LK_ hK, LM_ hK.m, c4, ec]
      exact fin I _ same.rf (by rw [eE]; exact hC) (by rw [eE]; exact hP) fun _ => by rw [ecv]
  · have eE : nmE P lo hi = rfs P 1 := by unfold nmE; rw [if_neg q1]
    simp (disch := omega) only [vpT, nI_leI, nI_ltI, nI_eq, nleT, nleF, nltT, nltF, neqT, neqF, nI_add, pk_mul, subN, divN, nI_clamp, mI1, wrH, wrM1, wrM2, wrowH, wrowM, bI0, bI1, kIi, kVi, kRi, kLi, kIx, kVx, Option.some.injEq, exists_eq_left', true_and, and_true, true_implies, false_implies, implies_true, not_true_eq_false, not_false_eq_true, true_or, or_true, false_or, or_false, forall_eq, iteT, iteF, LK_ hK, LM_ hK.m, hC.2.2.1]
    refine sp_refuse (P := P) (B := B) (N := N) hK hC hP fun I2 hs2 hC2 => t73_18 (fin I2 _ hs2 (by rw [eE]; exact hC2) (by rw [eE]; exact hP.rfs (by decide)) fun w => absurd (nmP_0 w).2.1 q1)
/-- what the model's reader leaves alone -/
def MF (I I2 : Nat → Nat → Int32) (J J2 : Nat → Nat → Int64) (x : Nat) : Prop := same I I2 (fun a => a = x + 271) ∧ (∀ a, a ≠ x + 271 → J2 a = J a) ∧ ∀ j, j < 9 ∨ 16 < j → I2 (x + 271) j = I (x + 271) j
theorem MF.tr {I I2 I3 : Nat → Nat → Int32} {J J2 J3 : Nat → Nat → Int64} (h : MF I I2 J J2 x) (h2 : MF I2 I3 J2 J3 x) : MF I I3 J J3 x := ⟨h.1.tr h2.1, fun a ha => (h2.2.1 a ha).trans (h.2.1 a ha), fun j hj => (h2.2.2 j hj).trans (h.2.2 j hj)⟩
theorem MF.rf : MF I I J J x := ⟨same.rf, fun _ _ => rfl, fun _ _ => rfl⟩
/-- a step, where there is no fault -/
theorem mp_st (hK : LK L x) (hB : ∀ j, j < N → I (x + 271 + 5) j = B j) (hb : ∀ j, j < N → byt (B j)) (hN : N ≤ 500) (hM : MR I J B (x + 271) N P) (hP : OKP B N P) (h0 : P.2.2.2.2.1 = 0) (k : ∀ I2 J2, MF I I2 J J2 x → MR I2 J2 B (x + 271) N (pst B N P) → G (L, I2, J2, t)) : cal (d + 3) 181 [.ref (x + 271)] (L, I, J, t) (kV G X) :=
  mp_goes hK hB hb hN hM hP.1 h0 fun I2 J2 h1 h2 h3 h4 => k I2 J2 ⟨h1, h2, fun j hj => h3 j (by omega)⟩ (by unfold pst; rw [if_pos h0]; exact h4)
theorem mp_chk {b : Bool} {c : Nat} (hK : LK L x) (hM : MR I J B (x + 271) N P) (hP : OKP B N P) (hc : c ≠ 0) (hc3 : c ≤ 3) (k : ∀ I2, MF I I2 J J x → MR I2 J B (x + 271) N (if b then P else rfs P c) → F (bI (decide ((if b then P else rfs P c).2.2.2.2.1 = 0))) (L, I2, J, t)) : cal (d + 2) 190 [.ref (x + 271), .int (bI b), .int (nI c)] (L, I, J, t) (kI F X) :=
  mp_check hK hM hP hc hc3 fun I2 h1 h2 h3 => k I2 ⟨h1, fun _ _ => rfl, fun j hj => h2 j (by omega) (by omega)⟩ h3
theorem mp_number (hK : LK L x) (hB : ∀ j, j < N → I (x + 271 + 5) j = B j) (hb : ∀ j, j < N → byt (B j)) (hN : N ≤ 500) (hM : MR I J B (x + 271) N P) (hP : OKP B N P) (hlo : lo ≤ 2000) (hhi : hi ≤ 1999) (k : ∀ I2 J2 r, MF I I2 J J2 x → MR I2 J2 B (x + 271) N (nmP B N P lo hi) → r = (if (nmP B N P lo hi).2.2.2.2.1 = 0 then P.2.2.2.1 else 0) → F (nI r) (L, I2, J2, t)) : cal (d + 4) 191 [.ref (x + 271), .int (nI lo), .int (nI hi)] (L, I, J, t) (kI F X) := by
  have p3 := hP.1.2.2.1
  refine e191 (t191_0 ?_)
  simp (disch := omega) only [vpT, nI_leI, nI_ltI, nI_eq, nleT, nleF, nltT, nltF, neqT, neqF, nI_add, pk_mul, subN, divN, nI_clamp, mI1, wrH, wrM1, wrM2, wrowH, wrowM, bI0, bI1, kIi, kVi, kRi, kLi, kIx, kVx, Option.some.injEq, exists_eq_left', true_and, and_true, true_implies, false_implies, implies_true, not_true_eq_false, not_false_eq_true, true_or, or_true, false_or, or_false, forall_eq, iteT, iteF, LK_ hK, LM_ hK.m]
  refine mp_fine hK hM hP (t191_4 ?_)
  by_cases f0 : P.2.2.2.2.1 = 0
  · rw [decide_eq_true f0, bI_t]
    simp (disch := omega) only [vpT, nI_leI, nI_ltI, nI_eq, nleT, nleF, nltT, nltF, neqT, neqF, nI_add, pk_mul, subN, divN, nI_clamp, mI1, wrH, wrM1, wrM2, wrowH, wrowM, bI0, bI1, kIi, kVi, kRi, kLi, kIx, kVx, Option.some.injEq, exists_eq_left', true_and, and_true, true_implies, false_implies, implies_true, not_true_eq_false, not_false_eq_true, true_or, or_true, false_or, or_false, forall_eq, iteT, iteF, LK_ hK, LM_ hK.m]
    by_cases q1 : P.1 = 1
    · have e11 : I (x + 271) 11 = nI 1000 := by rw [hM.2.2.2.1, q1, mtk1]
      have e12 := hM.2.2.2.2.1 q1
      have p6 := hP.1.2.2.2.2.2.1
      simp (disch := omega) only [vpT, nI_leI, nI_ltI, nI_eq, nleT, nleF, nltT, nltF, neqT, neqF, nI_add, pk_mul, subN, divN, nI_clamp, mI1, wrH, wrM1, wrM2, wrowH, wrowM, bI0, bI1, kIi, kVi, kRi, kLi, kIx, kVx, Option.some.injEq, exists_eq_left', true_and, and_true, true_implies, false_implies, implies_true, not_true_eq_false, not_false_eq_true, true_or, or_true, false_or, or_false, forall_eq, iteT, iteF, LK_ hK, LM_ hK.m, e11]
      refine mp_chk (b := true) (c := 1) hK hM hP (by decide) (by decide) fun I2 h2 hM2 => t191_27 ?_
      rw [if_pos rfl] at hM2 ⊢
      rw [decide_eq_true f0, bI_t]
      have e12' : I2 (x + 271) 12 = nI P.2.2.2.1 := hM2.2.2.2.2.1 q1
      simp (disch := omega) only [vpT, nI_leI, nI_ltI, nI_eq, nleT, nleF, nltT, nltF, neqT, neqF, nI_add, pk_mul, subN, divN, nI_clamp, mI1, wrH, wrM1, wrM2, wrowH, wrowM, bI0, bI1, kIi, kVi, kRi, kLi, kIx, kVx, Option.some.injEq, exists_eq_left', true_and, and_true, true_implies, false_implies, implies_true, not_true_eq_false, not_false_eq_true, true_or, or_true, false_or, or_false, forall_eq, iteT, iteF, LK_ hK, LM_ hK.m, e12']
      have fin : ∀ bb : Bool, bb = decide (lo ≤ P.2.2.2.1 ∧ P.2.2.2.1 ≤ hi) → Wp (cal (d + 3)) kc_191 [] (kI F X) (43, [some (.ref (x + 271)), some (.int (nI lo)), some (.int (nI hi)), none], [.int (bI bb), .ref (x + 271)], (L, I2, J, t)) := by
        intro bb hbb
        have eE : (if bb then P else rfs P 2) = nmE P lo hi := by
          unfold nmE
          rw [if_pos q1, hbb]
          by_cases w : lo ≤ P.2.2.2.1 ∧ P.2.2.2.1 ≤ hi
          · rw [decide_eq_true w, if_pos rfl, if_neg (by omega)]
          · rw [decide_eq_false w, if_neg (by decide), if_pos (by omega)]
        refine t191_43 ?_
        simp (disch := omega) only [vpT, nI_leI, nI_ltI, nI_eq, nleT, nleF, nltT, nltF, neqT, neqF, nI_add, pk_mul, subN, divN, nI_clamp, mI1, wrH, wrM1, wrM2, wrowH, wrowM, bI0, bI1, kIi, kVi, kRi, kLi, kIx, kVx, Option.some.injEq, exists_eq_left', true_and, and_true, true_implies, false_implies, implies_true, not_true_eq_false, not_false_eq_true, true_or, or_true, false_or, or_false, forall_eq, iteT, iteF, LK_ hK, LM_ hK.m]
        refine mp_chk (b := bb) (c := 2) hK hM2 hP (by decide) (by decide) fun I3 h3 hM3 => t191_47 ?_
        rw [eE] at hM3 ⊢
        have hO : OKP B N (nmE P lo hi) := by
          rw [← eE]
          split
          · exact hP
          · exact hP.rfs (by decide)
        by_cases g0 : (nmE P lo hi).2.2.2.2.1 = 0
        · rw [decide_eq_true g0, bI_t]
          have e3 : nmE P lo hi = P := by
            rw [← eE] at g0 ⊢
            cases bb with
            | true => rfl
            | false => rw [if_neg (by decide), rfs_f f0] at g0; cases g0
          have e13 : I3 (x + 271) 12 = nI P.2.2.2.1 := by
            have := hM3.2.2.2.2.1
            rw [e3] at this
            exact this q1
          simp (disch := omega) only [vpT, nI_leI, nI_ltI, nI_eq, nleT, nleF, nltT, nltF, neqT, neqF, nI_add, pk_mul, subN, divN, nI_clamp, mI1, wrH, wrM1, wrM2, wrowH, wrowM, bI0, bI1, kIi, kVi, kRi, kLi, kIx, kVx, Option.some.injEq, exists_eq_left', true_and, and_true, true_implies, false_implies, implies_true, not_true_eq_false, not_false_eq_true, true_or, or_true, false_or, or_false, forall_eq, iteT, iteF, LK_ hK, LM_ hK.m, e13]
          refine mp_st hK (fun j hj => by rw [h3.1 _ (by omega), h2.1 _ (by omega)]; exact hB j hj) hb hN hM3 hO g0 fun I4 J4 h4 hM4 => t191_61 ?_
          simp (disch := omega) only [vpT, nI_leI, nI_ltI, nI_eq, nleT, nleF, nltT, nltF, neqT, neqF, nI_add, pk_mul, subN, divN, nI_clamp, mI1, wrH, wrM1, wrM2, wrowH, wrowM, bI0, bI1, kIi, kVi, kRi, kLi, kIx, kVx, Option.some.injEq, exists_eq_left', true_and, and_true, true_implies, false_implies, implies_true, not_true_eq_false, not_false_eq_true, true_or, or_true, false_or, or_false, forall_eq, iteT, iteF, LK_ hK, LM_ hK.m]
          exact k I4 J4 _ ((h2.tr h3).tr h4) hM4 (by rw [if_pos (show (nmP B N P lo hi).2.2.2.2.1 = 0 from pst_0 g0)])
        · rw [decide_eq_false g0, bI_f]
          simp (disch := omega) only [vpT, nI_leI, nI_ltI, nI_eq, nleT, nleF, nltT, nltF, neqT, neqF, nI_add, pk_mul, subN, divN, nI_clamp, mI1, wrH, wrM1, wrM2, wrowH, wrowM, bI0, bI1, kIi, kVi, kRi, kLi, kIx, kVx, Option.some.injEq, exists_eq_left', true_and, and_true, true_implies, false_implies, implies_true, not_true_eq_false, not_false_eq_true, true_or, or_true, false_or, or_false, forall_eq, iteT, iteF, LK_ hK, LM_ hK.m]
          refine k I3 J _ (h2.tr h3) (by unfold nmP; rw [pst_n g0]; exact hM3) ?_
          rw [if_neg (show ¬ (nmP B N P lo hi).2.2.2.2.1 = 0 from fun w => g0 (pst_ft.mp w))]
      by_cases w : lo ≤ P.2.2.2.1 ∧ P.2.2.2.1 ≤ hi
      · exact mp_inT rfl rfl ⟨(nI_leI (by omega) (by omega)).mpr w.1, (nI_leI (by omega) (by omega)).mpr w.2⟩ (fin true (by rw [decide_eq_true w]))
      · refine mp_inF rfl rfl (fun q => w ⟨(nI_leI (by omega) (by omega)).mp q.1, (nI_leI (by omega) (by omega)).mp q.2⟩) (fin false (by rw [decide_eq_false w]))
    · have n11 : mtk P.1 ≠ 1000 := fun e => q1 ((mtk_eq (c := 1) p3 hP.2 (by decide) (by decide)).mp (e.trans mtk1.symm))
      have hm := mtk_lt (k := P.1)
      have eE : nmE P lo hi = rfs P 1 := by unfold nmE; rw [if_neg q1]
      simp (disch := omega) only [vpT, nI_leI, nI_ltI, nI_eq, nleT, nleF, nltT, nltF, neqT, neqF, nI_add, pk_mul, subN, divN, nI_clamp, mI1, wrH, wrM1, wrM2, wrowH, wrowM, bI0, bI1, kIi, kVi, kRi, kLi, kIx, kVx, Option.some.injEq, exists_eq_left', true_and, and_true, true_implies, false_implies, implies_true, not_true_eq_false, not_false_eq_true, true_or, or_true, false_or, or_false, forall_eq, iteT, iteF, LK_ hK, LM_ hK.m, hM.2.2.2.1]
      refine mp_chk (b := false) (c := 1) hK hM hP (by decide) (by decide) fun I2 h2 hM2 => t191_27 ?_
      rw [if_neg (by decide)] at hM2 ⊢
      rw [rfs_f f0]
      have gn : (rfs P 1).2.2.2.2.1 ≠ 0 := by rw [rfs_f f0]; decide
      rw [decide_eq_false (by decide), bI_f]
      simp (disch := omega) only [vpT, nI_leI, nI_ltI, nI_eq, nleT, nleF, nltT, nltF, neqT, neqF, nI_add, pk_mul, subN, divN, nI_clamp, mI1, wrH, wrM1, wrM2, wrowH, wrowM, bI0, bI1, kIi, kVi, kRi, kLi, kIx, kVx, Option.some.injEq, exists_eq_left', true_and, and_true, true_implies, false_implies, implies_true, not_true_eq_false, not_false_eq_true, true_or, or_true, false_or, or_false, forall_eq, iteT, iteF, LK_ hK, LM_ hK.m]
      refine k I2 J _ h2 (by unfold nmP; rw [eE, pst_n gn]; exact hM2) ?_
      rw [if_neg (fun w => by
        have := pst_ft.mp w
        rw [eE] at this
        exact gn this)]
  · rw [decide_eq_false f0, bI_f]
    simp (disch := omega) only [vpT, nI_leI, nI_ltI, nI_eq, nleT, nleF, nltT, nltF, neqT, neqF, nI_add, pk_mul, subN, divN, nI_clamp, mI1, wrH, wrM1, wrM2, wrowH, wrowM, bI0, bI1, kIi, kVi, kRi, kLi, kIx, kVx, Option.some.injEq, exists_eq_left', true_and, and_true, true_implies, false_implies, implies_true, not_true_eq_false, not_false_eq_true, true_or, or_true, false_or, or_false, forall_eq, iteT, iteF, LK_ hK, LM_ hK.m]
    exact k I J _ MF.rf (by rw [nmP_n f0]; exact hM) (by rw [nmP_n f0, if_neg f0])
theorem sp_stepOver {b : Bool} (hK : LK L x) (hB : ∀ j, j < N → I (x + 56) j = B j) (hN : N ≤ 500) (hC : CR I x N P) (hP : OKP B N P) (k : ∀ I2, same I I2 (fun a => a = x + 57) → CR I2 x N (pst B N (if b = true then P else rfs P 1)) → G (L, I2, J, t)) : cal (d + 3) 71 [.ref (x + 57), .int (bI b)] (L, I, J, t) (kV G X) := by
  refine e71 (t71_0 ?_)
  have fin : ∀ I2 Q y, same I I2 (fun a => a = x + 57) → CR I2 x N Q → OKP B N Q → Q = (if b = true then P else rfs P 1) → Wp (cal (d + 2)) kc_71 [] (kV G X) (9, [some (.ref (x + 57)), some (.int y)], [], (L, I2, J, t)) := by
    intro I2 Q y hs2 hC2 hO2 e
    refine t71_9 ?_
    simp (disch := omega) only [vpT, nI_leI, nI_ltI, nI_eq, nleT, nleF, nltT, nltF, neqT, neqF, nI_add, pk_mul, subN, divN, nI_clamp, mI1, wrH, wrM1, wrM2, wrowH, wrowM, bI0, bI1, kIi, kVi, kRi, kLi, kIx, kVx, Option.some.injEq, exists_eq_left', true_and, and_true, true_implies, false_implies, implies_true, not_true_eq_false, not_false_eq_true, true_or, or_true, false_or, or_false, forall_eq, iteT, iteF, LK_ hK, LM_ hK.m]
    refine sp_step hK (fun j hj => by rw [hs2 _ (by omega)]; exact hB j hj) hN hC2 hO2.1 fun I3 hs3 hC3 => t71_13 ?_
    simp (disch := omega) only [vpT, nI_leI, nI_ltI, nI_eq, nleT, nleF, nltT, nltF, neqT, neqF, nI_add, pk_mul, subN, divN, nI_clamp, mI1, wrH, wrM1, wrM2, wrowH, wrowM, bI0, bI1, kIi, kVi, kRi, kLi, kIx, kVx, Option.some.injEq, exists_eq_left', true_and, and_true, true_implies, false_implies, implies_true, not_true_eq_false, not_false_eq_true, true_or, or_true, false_or, or_false, forall_eq, iteT, iteF, LK_ hK, LM_ hK.m]
    exact k I3 (hs2.tr hs3) (by rw [← e]; exact hC3)
  cases b with
  | true =>
    simp (disch := omega) only [vpT, nI_leI, nI_ltI, nI_eq, nleT, nleF, nltT, nltF, neqT, neqF, nI_add, pk_mul, subN, divN, nI_clamp, mI1, wrH, wrM1, wrM2, wrowH, wrowM, bI0, bI1, kIi, kVi, kRi, kLi, kIx, kVx, Option.some.injEq, exists_eq_left', true_and, and_true, true_implies, false_implies, implies_true, not_true_eq_false, not_false_eq_true, true_or, or_true, false_or, or_false, forall_eq, iteT, iteF, LK_ hK, LM_ hK.m, bI_t]
    exact fin I P _ same.rf hC hP rfl
  | false =>
    simp (disch := omega) only [vpT, nI_leI, nI_ltI, nI_eq, nleT, nleF, nltT, nltF, neqT, neqF, nI_add, pk_mul, subN, divN, nI_clamp, mI1, wrH, wrM1, wrM2, wrowH, wrowM, bI0, bI1, kIi, kVi, kRi, kLi, kIx, kVx, Option.some.injEq, exists_eq_left', true_and, and_true, true_implies, false_implies, implies_true, not_true_eq_false, not_false_eq_true, true_or, or_true, false_or, or_false, forall_eq, iteT, iteF, LK_ hK, LM_ hK.m, bI_f]
    exact sp_refuse hK hC hP fun I2 hs2 hC2 => fin I2 _ _ hs2 hC2 (hP.rfs (by decide)) rfl
theorem sp_sort (hK : LK L x) (hW : WS L I x) (hB : ∀ j, j < N → I (x + 56) j = B j) (hN : N ≤ 500) (hC : CR I x N P) (hP : OKP B N P) (k : ∀ I2 r, same I I2 (fun a => a = x + 57) → CR I2 x N (soP B N P) → r < 8 → ((soP B N P).2.2.2.2.1 = 0 → r = soV B N P) → F (nI r) (L, I2, J, t)) : cal (d + 4) 70 [.ref (x + 57)] (L, I, J, t) (kI F X) := by
  have fin : ∀ I2 (y : Bool), y = iw B P 1 → same I I2 (fun a => a = x + 57) → CR I2 x N (pst B N (soE B P)) → Wp (cal (d + 3)) kc_70 [] (kI F X) (29, [some (.ref (x + 57)), some (.int (bI y))], [], (L, I2, J, t)) := by
    intro I2 y hy hs2 hC2
    have hO : OKP B N (pst B N (soE B P)) := by
      refine OKP.pst ?_
      unfold soE
      split
      · exact hP
      · exact hP.rfs (by decide)
    refine t70_29 ?_
    simp (disch := omega) only [vpT, nI_leI, nI_ltI, nI_eq, nleT, nleF, nltT, nltF, neqT, neqF, nI_add, pk_mul, subN, divN, nI_clamp, mI1, wrH, wrM1, wrM2, wrowH, wrowM, bI0, bI1, kIi, kVi, kRi, kLi, kIx, kVx, Option.some.injEq, exists_eq_left', true_and, and_true, true_implies, false_implies, implies_true, not_true_eq_false, not_false_eq_true, true_or, or_true, false_or, or_false, forall_eq, iteT, iteF, LK_ hK, LM_ hK.m]
    refine sp_number (lo := 0) (hi := 3) hK (fun j hj => by rw [hs2 _ (by omega)]; exact hB j hj) hN hC2 hO (by decide) (by decide) fun I3 r hs3 hC3 er => t70_36 ?_
    refine sp_bit (t70_41 ?_)
    have er : r = if (soP B N P).2.2.2.2.1 = 0 then (pst B N (soE B P)).2.2.2.1 else 0 := er
    have hr3 : r ≤ 3 := by
      rw [er]
      split
      · rename_i q; exact (nmP_0 q).2.2.2
      · decide
    have eb : bI y = nI (if y = true then 1 else 0) := by
      cases y with
      | true => rfl
      | false => rfl
    rw [eb]
    simp (disch := omega) only [vpT, nI_leI, nI_ltI, nI_eq, nleT, nleF, nltT, nltF, neqT, neqF, nI_add, pk_mul, subN, divN, nI_clamp, mI1, wrH, wrM1, wrM2, wrowH, wrowM, bI0, bI1, kIi, kVi, kRi, kLi, kIx, kVx, Option.some.injEq, exists_eq_left', true_and, and_true, true_implies, false_implies, implies_true, not_true_eq_false, not_false_eq_true, true_or, or_true, false_or, or_false, forall_eq, iteT, iteF, LK_ hK, LM_ hK.m]
    refine k I3 (2 * r + (if y = true then 1 else 0)) (hs2.tr hs3) hC3 (by split <;> omega) fun q => ?_
    rw [er, if_pos q, hy]
    rfl
  refine e70 (t70_0 ?_)
  simp (disch := omega) only [vpT, nI_leI, nI_ltI, nI_eq, nleT, nleF, nltT, nltF, neqT, neqF, nI_add, pk_mul, subN, divN, nI_clamp, mI1, wrH, wrM1, wrM2, wrowH, wrowM, bI0, bI1, kIi, kVi, kRi, kLi, kIx, kVx, Option.some.injEq, exists_eq_left', true_and, and_true, true_implies, false_implies, implies_true, not_true_eq_false, not_false_eq_true, true_or, or_true, false_or, or_false, forall_eq, iteT, iteF, LK_ hK, LM_ hK.m]
  refine sp_isWord hK hW hB hN hC hP (by decide) (t70_6 ?_)
  cases h1 : iw B P 1 with
  | true =>
    simp (disch := omega) only [vpT, nI_leI, nI_ltI, nI_eq, nleT, nleF, nltT, nltF, neqT, neqF, nI_add, pk_mul, subN, divN, nI_clamp, mI1, wrH, wrM1, wrM2, wrowH, wrowM, bI0, bI1, kIi, kVi, kRi, kLi, kIx, kVx, Option.some.injEq, exists_eq_left', true_and, and_true, true_implies, false_implies, implies_true, not_true_eq_false, not_false_eq_true, true_or, or_true, false_or, or_false, forall_eq, iteT, iteF, LK_ hK, LM_ hK.m, bI_t]
    refine sp_stepOver (b := true) hK hB hN hC hP fun I2 hs2 hC2 => fin I2 true h1.symm hs2 ?_
    unfold soE
    rw [h1, Bool.true_or, if_pos rfl]
    exact hC2
  | false =>
    simp (disch := omega) only [vpT, nI_leI, nI_ltI, nI_eq, nleT, nleF, nltT, nltF, neqT, neqF, nI_add, pk_mul, subN, divN, nI_clamp, mI1, wrH, wrM1, wrM2, wrowH, wrowM, bI0, bI1, kIi, kVi, kRi, kLi, kIx, kVx, Option.some.injEq, exists_eq_left', true_and, and_true, true_implies, false_implies, implies_true, not_true_eq_false, not_false_eq_true, true_or, or_true, false_or, or_false, forall_eq, iteT, iteF, LK_ hK, LM_ hK.m, bI_f]
    refine sp_isWord hK hW hB hN hC hP (by decide) (t70_18 ?_)
    cases h2 : iw B P 2 with
    | true =>
      simp (disch := omega) only [vpT, nI_leI, nI_ltI, nI_eq, nleT, nleF, nltT, nltF, neqT, neqF, nI_add, pk_mul, subN, divN, nI_clamp, mI1, wrH, wrM1, wrM2, wrowH, wrowM, bI0, bI1, kIi, kVi, kRi, kLi, kIx, kVx, Option.some.injEq, exists_eq_left', true_and, and_true, true_implies, false_implies, implies_true, not_true_eq_false, not_false_eq_true, true_or, or_true, false_or, or_false, forall_eq, iteT, iteF, LK_ hK, LM_ hK.m, bI_t]
      refine sp_stepOver (b := true) hK hB hN hC hP fun I2 hs2 hC2 => fin I2 false h1.symm hs2 ?_
      unfold soE
      rw [h1, h2, Bool.false_or, if_pos rfl]
      exact hC2
    | false =>
      simp (disch := omega) only [vpT, nI_leI, nI_ltI, nI_eq, nleT, nleF, nltT, nltF, neqT, neqF, nI_add, pk_mul, subN, divN, nI_clamp, mI1, wrH, wrM1, wrM2, wrowH, wrowM, bI0, bI1, kIi, kVi, kRi, kLi, kIx, kVx, Option.some.injEq, exists_eq_left', true_and, and_true, true_implies, false_implies, implies_true, not_true_eq_false, not_false_eq_true, true_or, or_true, false_or, or_false, forall_eq, iteT, iteF, LK_ hK, LM_ hK.m, bI_f]
      refine sp_stepOver (b := false) hK hB hN hC hP fun I2 hs2 hC2 => fin I2 false h1.symm hs2 ?_
      unfold soE
      rw [h1, h2, Bool.false_or]
      exact hC2
theorem mp_sort (hK : LK L x) (hW : WS L I x) (hB : ∀ j, j < N → I (x + 271 + 5) j = B j) (hb : ∀ j, j < N → byt (B j)) (hN : N ≤ 500) (hM : MR I J B (x + 271) N P) (hP : OKP B N P) (k : ∀ I2 J2 r, MF I I2 J J2 x → MR I2 J2 B (x + 271) N (soP B N P) → r < 8 → ((soP B N P).2.2.2.2.1 = 0 → r = soV B N P) → F (nI r) (L, I2, J2, t)) : cal (d + 5) 189 [.ref (x + 271)] (L, I, J, t) (kI F X) := by
  refine e189 (t189_0 ?_)
  simp (disch := omega) only [vpT, nI_leI, nI_ltI, nI_eq, nleT, nleF, nltT, nltF, neqT, neqF, nI_add, pk_mul, subN, divN, nI_clamp, mI1, wrH, wrM1, wrM2, wrowH, wrowM, bI0, bI1, kIi, kVi, kRi, kLi, kIx, kVx, Option.some.injEq, exists_eq_left', true_and, and_true, true_implies, false_implies, implies_true, not_true_eq_false, not_false_eq_true, true_or, or_true, false_or, or_false, forall_eq, iteT, iteF, LK_ hK, LM_ hK.m]
  refine mp_fine hK hM hP (t189_4 ?_)
  by_cases f0 : P.2.2.2.2.1 = 0
  · rw [decide_eq_true f0, bI_t]
    simp (disch := omega) only [vpT, nI_leI, nI_ltI, nI_eq, nleT, nleF, nltT, nltF, neqT, neqF, nI_add, pk_mul, subN, divN, nI_clamp, mI1, wrH, wrM1, wrM2, wrowH, wrowM, bI0, bI1, kIi, kVi, kRi, kLi, kIx, kVx, Option.some.injEq, exists_eq_left', true_and, and_true, true_implies, false_implies, implies_true, not_true_eq_false, not_false_eq_true, true_or, or_true, false_or, or_false, forall_eq, iteT, iteF, LK_ hK, LM_ hK.m]
    have fin : ∀ (y bb : Bool), y = iw B P 1 → bb = (iw B P 1 || iw B P 2) → cal (d + 4) 190 [.ref (x + 271), .int (bI bb), .int (nI 1)] (L, I, J, t) (kI (fun r h2 => Wp (cal (d + 4)) kc_189 [] (kI F X) (39, [some (.ref (x + 271)), some (.int (bI y)), none], [.int r], h2)) (fun e h2 => kI F X (.inr e) h2)) := by
      intro y bb hy hbb
      refine mp_chk (b := bb) (c := 1) hK hM hP (by decide) (by decide) fun I2 h2 hM2 => t189_39 ?_
      have eE : (if bb = true then P else rfs P 1) = soE B P := by unfold soE; rw [hbb]
      rw [eE] at hM2 ⊢
      have hO : OKP B N (soE B P) := by
        rw [← eE]
        split
        · exact hP
        · exact hP.rfs (by decide)
      by_cases g0 : (soE B P).2.2.2.2.1 = 0
      · rw [decide_eq_true g0, bI_t]
        simp (disch := omega) only [vpT, nI_leI, nI_ltI, nI_eq, nleT, nleF, nltT, nltF, neqT, neqF, nI_add, pk_mul, subN, divN, nI_clamp, mI1, wrH, wrM1, wrM2, wrowH, wrowM, bI0, bI1, kIi, kVi, kRi, kLi, kIx, kVx, Option.some.injEq, exists_eq_left', true_and, and_true, true_implies, false_implies, implies_true, not_true_eq_false, not_false_eq_true, true_or, or_true, false_or, or_false, forall_eq, iteT, iteF, LK_ hK, LM_ hK.m]
        refine mp_st hK (fun j hj => by rw [h2.1 _ (by omega)]; exact hB j hj) hb hN hM2 hO g0 fun I3 J3 h3 hM3 => t189_48 ?_
        simp (disch := omega) only [vpT, nI_leI, nI_ltI, nI_eq, nleT, nleF, nltT, nltF, neqT, neqF, nI_add, pk_mul, subN, divN, nI_clamp, mI1, wrH, wrM1, wrM2, wrowH, wrowM, bI0, bI1, kIi, kVi, kRi, kLi, kIx, kVx, Option.some.injEq, exists_eq_left', true_and, and_true, true_implies, false_implies, implies_true, not_true_eq_false, not_false_eq_true, true_or, or_true, false_or, or_false, forall_eq, iteT, iteF, LK_ hK, LM_ hK.m]
        refine mp_number (lo := 0) (hi := 3) hK (fun j hj => by rw [h3.1 _ (by omega), h2.1 _ (by omega)]; exact hB j hj) hb hN hM3 hO.pst (by decide) (by decide) fun I4 J4 r h4 hM4 er => t189_54 ?_
        have er : r = if (soP B N P).2.2.2.2.1 = 0 then (pst B N (soE B P)).2.2.2.1 else 0 := er
        have hr3 : r ≤ 3 := by
          rw [er]
          split
          · rename_i q; exact (nmP_0 q).2.2.2
          · decide
        have kk := fun rr h8 e => k I4 J4 rr ((h2.tr h3).tr h4) hM4 h8 e
        cases y with
        | true =>
          simp (disch := omega) only [vpT, nI_leI, nI_ltI, nI_eq, nleT, nleF, nltT, nltF, neqT, neqF, nI_add, pk_mul, subN, divN, nI_clamp, mI1, wrH, wrM1, wrM2, wrowH, wrowM, bI0, bI1, kIi, kVi, kRi, kLi, kIx, kVx, Option.some.injEq, exists_eq_left', true_and, and_true, true_implies, false_implies, implies_true, not_true_eq_false, not_false_eq_true, true_or, or_true, false_or, or_false, forall_eq, iteT, iteF, LK_ hK, LM_ hK.m, bI_t]
          refine kk _ (by omega) fun q => ?_
          rw [er, if_pos q]
          unfold soV
          rw [← hy, if_pos rfl]
        | false =>
          simp (disch := omega) only [vpT, nI_leI, nI_ltI, nI_eq, nleT, nleF, nltT, nltF, neqT, neqF, nI_add, pk_mul, subN, divN, nI_clamp, mI1, wrH, wrM1, wrM2, wrowH, wrowM, bI0, bI1, kIi, kVi, kRi, kLi, kIx, kVx, Option.some.injEq, exists_eq_left', true_and, and_true, true_implies, false_implies, implies_true, not_true_eq_false, not_false_eq_true, true_or, or_true, false_or, or_false, forall_eq, iteT, iteF, LK_ hK, LM_ hK.m, bI_f]
          refine kk _ (by omega) fun q => ?_
          rw [er, if_pos q]
          unfold soV
          rw [← hy, if_neg (by decide)]
      · rw [decide_eq_false g0, bI_f]
        simp (disch := omega) only [vpT, nI_leI, nI_ltI, nI_eq, nleT, nleF, nltT, nltF, neqT, neqF, nI_add, pk_mul, subN, divN, nI_clamp, mI1, wrH, wrM1, wrM2, wrowH, wrowM, bI0, bI1, kIi, kVi, kRi, kLi, kIx, kVx, Option.some.injEq, exists_eq_left', true_and, and_true, true_implies, false_implies, implies_true, not_true_eq_false, not_false_eq_true, true_or, or_true, false_or, or_false, forall_eq, iteT, iteF, LK_ hK, LM_ hK.m]
        have ep : soP B N P = soE B P := by unfold soP; rw [pst_n g0, nmP_n g0]
        exact k I2 J 0 h2 (by rw [ep]; exact hM2) (by decide) fun q => absurd (by rw [← ep]; exact q) g0
    refine mp_isWord hK hW hM hP hN (by decide) (t189_15 ?_)
    cases h1 : iw B P 1 with
    | true =>
      simp (disch := omega) only [vpT, nI_leI, nI_ltI, nI_eq, nleT, nleF, nltT, nltF, neqT, neqF, nI_add, pk_mul, subN, divN, nI_clamp, mI1, wrH, wrM1, wrM2, wrowH, wrowM, bI0, bI1, kIi, kVi, kRi, kLi, kIx, kVx, Option.some.injEq, exists_eq_left', true_and, and_true, true_implies, false_implies, implies_true, not_true_eq_false, not_false_eq_true, true_or, or_true, false_or, or_false, forall_eq, iteT, iteF, LK_ hK, LM_ hK.m, bI_t]
      exact fin true true h1.symm (by rw [h1]; rfl)
    | false =>
      simp (disch := omega) only [vpT, nI_leI, nI_ltI, nI_eq, nleT, nleF, nltT, nltF, neqT, neqF, nI_add, pk_mul, subN, divN, nI_clamp, mI1, wrH, wrM1, wrM2, wrowH, wrowM, bI0, bI1, kIi, kVi, kRi, kLi, kIx, kVx, Option.some.injEq, exists_eq_left', true_and, and_true, true_implies, false_implies, implies_true, not_true_eq_false, not_false_eq_true, true_or, or_true, false_or, or_false, forall_eq, iteT, iteF, LK_ hK, LM_ hK.m, bI_f]
      refine mp_isWord hK hW hM hP hN (by decide) (t189_27 ?_)
      cases h2 : iw B P 2 with
      | true =>
        simp (disch := omega) only [vpT, nI_leI, nI_ltI, nI_eq, nleT, nleF, nltT, nltF, neqT, neqF, nI_add, pk_mul, subN, divN, nI_clamp, mI1, wrH, wrM1, wrM2, wrowH, wrowM, bI0, bI1, kIi, kVi, kRi, kLi, kIx, kVx, Option.some.injEq, exists_eq_left', true_and, and_true, true_implies, false_implies, implies_true, not_true_eq_false, not_false_eq_true, true_or, or_true, false_or, or_false, forall_eq, iteT, iteF, LK_ hK, LM_ hK.m, bI_t]
        exact fin false true h1.symm (by rw [h1, h2]; rfl)
      | false =>
        simp (disch := omega) only [vpT, nI_leI, nI_ltI, nI_eq, nleT, nleF, nltT, nltF, neqT, neqF, nI_add, pk_mul, subN, divN, nI_clamp, mI1, wrH, wrM1, wrM2, wrowH, wrowM, bI0, bI1, kIi, kVi, kRi, kLi, kIx, kVx, Option.some.injEq, exists_eq_left', true_and, and_true, true_implies, false_implies, implies_true, not_true_eq_false, not_false_eq_true, true_or, or_true, false_or, or_false, forall_eq, iteT, iteF, LK_ hK, LM_ hK.m, bI_f]
        exact fin false false h1.symm (by rw [h1, h2]; rfl)
  · rw [decide_eq_false f0, bI_f]
    simp (disch := omega) only [vpT, nI_leI, nI_ltI, nI_eq, nleT, nleF, nltT, nltF, neqT, neqF, nI_add, pk_mul, subN, divN, nI_clamp, mI1, wrH, wrM1, wrM2, wrowH, wrowM, bI0, bI1, kIi, kVi, kRi, kLi, kIx, kVx, Option.some.injEq, exists_eq_left', true_and, and_true, true_implies, false_implies, implies_true, not_true_eq_false, not_false_eq_true, true_or, or_true, false_or, or_false, forall_eq, iteT, iteF, LK_ hK, LM_ hK.m]
    exact k I J 0 MF.rf (by rw [soP_n f0]; exact hM) (by decide) fun q => absurd (by rw [soP_n f0] at q; exact q) f0
end NUMS
