/-! The model's reader: its tokens. -/
def mtk (k : Nat) : Nat := if k = 0 then 1001 else if k = 1 then 1000 else if k = 2 then 59 else if k = 3 then 1003 else 1002
/-- eight letters at most, packed -/
def wd (B : Nat → Int32) (s : Nat) : Nat → Int64
  | 0 => 0
  | k + 1 => if k < 8 then wd B s k * 32 + (B (s + k)).toInt64 - 97 + 1 else wd B s k
def MR (I : Nat → Nat → Int32) (J : Nat → Nat → Int64) (B : Nat → Int32) (m N : Nat) (P : PS) : Prop := I m 8 = nI N ∧ I m 9 = nI P.2.2.1 ∧ I m 10 = nI P.2.1 ∧ I m 11 = nI (mtk P.1) ∧ (P.1 = 1 → I m 12 = nI P.2.2.2.1) ∧ (P.1 = 0 → I m 13 = nI (P.2.2.1 - P.2.1) ∧ J m 14 = wd B P.2.1 (P.2.2.1 - P.2.1)) ∧ I m 15 = nI P.2.2.2.2.1 ∧ I m 16 = (if P.2.2.2.2.1 = 0 then -1 else nI P.2.2.2.2.2)
theorem mtk_lt {k : Nat} : mtk k < 2000 := by
  unfold mtk
  repeat' split
  all_goals decide
theorem bt_pos : ∀ k, k < 128 → (nI k &&& nI 255) = nI k := by decide +kernel
theorem bt_neg : ∀ k, k < 129 → 0 < k → nI 122 < (-(nI k) &&& nI 255) ∧ -(nI k) < nI 0 := by decide +kernel
/-- a byte as the model has it -/
theorem byt_c {b : Int32} (h : byt b) : (tk b = 4 ↔ (b &&& nI 255) = nI 32 ∨ (b &&& nI 255) = nI 10) ∧ (tk b = 0 ↔ nI 97 ≤ (b &&& nI 255) ∧ (b &&& nI 255) ≤ nI 122) ∧ (tk b = 1 ↔ nI 48 ≤ (b &&& nI 255) ∧ (b &&& nI 255) ≤ nI 57) ∧ (tk b = 2 ↔ (b &&& nI 255) = nI 59) ∧ (tk b = 0 ∨ tk b = 1 → (b &&& nI 255) = b) := by
  by_cases h0 : 0 ≤ b.toInt
  · obtain ⟨k, hk, rfl⟩ := nI_nat (x := b) (B := 127) h0 h.2 (by decide)
    rw [bt_pos k (by omega)]
    unfold tk
    simp (disch := omega) only [nI_eq, nI_leI]
    refine ⟨?_, ?_, ?_, ?_, fun _ => trivial⟩
    all_goals (repeat' split)
    all_goals omega
  · obtain ⟨k, hk, e⟩ := nI_nat (x := -b) (B := 128) (by rw [Int32.toInt_neg, Int.bmod_eq_of_le (by have := h.1; omega) (by have := h.1; omega)]; omega) (by rw [Int32.toInt_neg, Int.bmod_eq_of_le (by have := h.1; omega) (by have := h.1; omega)]; have := h.1; omega) (by decide)
    have eb : b = -(nI k) := by rw [← e, Int32.neg_neg]
    have k0 : 0 < k := by
      apply Nat.pos_of_ne_zero
      intro w
      rw [eb, w] at h0
      exact h0 (by decide)
    obtain ⟨g1, g2⟩ := bt_neg k (by omega) k0
    rw [← eb] at g1 g2
    have lt : ∀ c, c ≤ 122 → ¬ (b &&& nI 255) = nI c ∧ ¬ (b &&& nI 255) ≤ nI c ∧ ¬ b = nI c ∧ ¬ nI c ≤ b := fun c hc => by
      have hc' : nI c ≤ nI 122 := (nI_leI (by omega) (by decide)).mpr hc
      have h0c : nI 0 ≤ nI c := (nI_leI (by decide) (by omega)).mpr (by omega)
      have a1 : nI c < (b &&& nI 255) := Int32.lt_of_le_of_lt hc' g1
      have a2 : b < nI c := Int32.lt_of_lt_of_le g2 h0c
      refine ⟨fun q => ?_, Int32.not_le.mpr a1, fun q => ?_, Int32.not_le.mpr a2⟩
      · rw [q] at a1; exact Int32.lt_irrefl a1
      · rw [q] at a2; exact Int32.lt_irrefl a2
    have e5 : tk b = 5 := by
      unfold tk
      rw [if_neg (fun q => q.elim (lt 32 (by decide)).2.2.1 (lt 10 (by decide)).2.2.1), if_neg (fun q => (lt 97 (by decide)).2.2.2 q.1), if_neg (fun q => (lt 48 (by decide)).2.2.2 q.1), if_neg (lt 59 (by decide)).2.2.1]
    rw [e5]
    refine ⟨⟨fun q => by omega, fun q => (q.elim (lt 32 (by decide)).1 (lt 10 (by decide)).1).elim⟩, ⟨fun q => by omega, fun q => ((lt 122 (by decide)).2.1 q.2).elim⟩, ⟨fun q => by omega, fun q => ((lt 57 (by decide)).2.1 q.2).elim⟩, ⟨fun q => by omega, fun q => ((lt 59 (by decide)).1 q).elim⟩, fun q => by omega⟩
section GOES
variable {I : Nat → Nat → Int32} {J : Nat → Nat → Int64} {L : hL} {x N : Nat} {B : Nat → Int32} {P : PS} {t : tl} {F : Int32 → hp → Prop} {G : hp → Prop} {X : Nat → hp → Prop} {d : Nat}
def bA (B : Nat → Int32) (N k : Nat) : Int32 := if k < N then B k &&& nI 255 else nI 0
--facts LK_ hK, LM_ hK.m
theorem mp_byteAt {k : Nat} (hK : LK L x) (hB : ∀ j, j < N → I (x + 271 + 5) j = B j) (hN : N ≤ 500) (h8 : I (x + 271) 8 = nI N) (hk : k ≤ N) (K : F (bA B N k) (L, I, J, t)) : cal (d + 1) 182 [.ref (x + 271), .int (nI k)] (L, I, J, t) (kI F X) := by
  refine e182 (t182_0 ?_)
  unfold bA at K
  by_cases q : k < N
  · rw [if_pos q] at K
    simp (disch := omega) only [vpT, nI_leI, nI_ltI, nI_eq, nleT, nleF, nltT, nltF, neqT, neqF, nI_add, pk_mul, subN, divN, nI_clamp, mI1, wrH, wrM1, wrM2, wrowH, wrowM, bI0, bI1, kIi, kVi, kRi, kLi, kIx, kVx, Option.some.injEq, exists_eq_left', true_and, and_true, true_implies, false_implies, implies_true, not_true_eq_false, not_false_eq_true, true_or, or_true, false_or, or_false, forall_eq, iteT, iteF, LK_ hK, LM_ hK.m, h8, hB k q]
    exact K
  · rw [if_neg q] at K
    simp (disch := omega) only [vpT, nI_leI, nI_ltI, nI_eq, nleT, nleF, nltT, nltF, neqT, neqF, nI_add, pk_mul, subN, divN, nI_clamp, mI1, wrH, wrM1, wrM2, wrowH, wrowM, bI0, bI1, kIi, kVi, kRi, kLi, kIx, kVx, Option.some.injEq, exists_eq_left', true_and, and_true, true_implies, false_implies, implies_true, not_true_eq_false, not_false_eq_true, true_or, or_true, false_or, or_false, forall_eq, iteT, iteF, LK_ hK, LM_ hK.m, h8]
    exact K
theorem mp_isLetter {H : hp} {b : Int32} (K : F (bI (decide (nI 97 ≤ b ∧ b ≤ nI 122))) H) : cal (d + 2) 183 [.int b] H (kI F X) := by
  by_cases q : nI 97 ≤ b ∧ b ≤ nI 122
  · rw [decide_eq_true q, bI_t] at K
    exact e183 (t183_0 (mp_inT (lo := nI 97) (hi := nI 122) rfl rfl q (t183_11 ⟨Or.inr rfl, K⟩)))
  · rw [decide_eq_false q, bI_f] at K
    exact e183 (t183_0 (mp_inF (lo := nI 97) (hi := nI 122) rfl rfl q (t183_11 ⟨Or.inl rfl, K⟩)))
theorem mp_isFigure {H : hp} {b : Int32} (K : F (bI (decide (nI 48 ≤ b ∧ b ≤ nI 57))) H) : cal (d + 2) 184 [.int b] H (kI F X) := by
  by_cases q : nI 48 ≤ b ∧ b ≤ nI 57
  · rw [decide_eq_true q, bI_t] at K
    exact e184 (t184_0 (mp_inT (lo := nI 48) (hi := nI 57) rfl rfl q (t184_11 ⟨Or.inr rfl, K⟩)))
  · rw [decide_eq_false q, bI_f] at K
    exact e184 (t184_0 (mp_inF (lo := nI 48) (hi := nI 57) rfl rfl q (t184_11 ⟨Or.inl rfl, K⟩)))
theorem bA_0 {k : Nat} (hb : ∀ j, j < N → byt (B j)) : decide (nI 97 ≤ bA B N k ∧ bA B N k ≤ nI 122) = decide (k < N ∧ tk (B k) = 0) := by
  refine decide_eq_decide.mpr ?_
  unfold bA
  by_cases q : k < N
  · rw [if_pos q]
    exact ⟨fun w => ⟨q, (byt_c (hb k q)).2.1.mpr w⟩, fun w => (byt_c (hb k q)).2.1.mp w.2⟩
  · rw [if_neg q]
    exact ⟨fun w => absurd w.1 (by decide), fun w => absurd w.1 q⟩
theorem bA_1 {k : Nat} (hb : ∀ j, j < N → byt (B j)) : decide (nI 48 ≤ bA B N k ∧ bA B N k ≤ nI 57) = decide (k < N ∧ tk (B k) = 1) := by
  refine decide_eq_decide.mpr ?_
  unfold bA
  by_cases q : k < N
  · rw [if_pos q]
    exact ⟨fun w => ⟨q, (byt_c (hb k q)).2.2.1.mpr w⟩, fun w => (byt_c (hb k q)).2.2.1.mp w.2⟩
  · rw [if_neg q]
    exact ⟨fun w => absurd w.1 (by decide), fun w => absurd w.1 q⟩
/-- the model's fields while it goes on -/
def GF (I I2 : Nat → Nat → Int32) (J J2 : Nat → Nat → Int64) (x q s : Nat) : Prop := same I I2 (fun a => a = x + 271) ∧ (∀ a, a ≠ x + 271 → J2 a = J a) ∧ (∀ j, j < 9 ∨ 13 < j → I2 (x + 271) j = I (x + 271) j) ∧ I2 (x + 271) 9 = nI q ∧ I2 (x + 271) 10 = nI s
theorem mp_goes0 {p : Nat} (hK : LK L x) (hB : ∀ j, j < N → I (x + 271 + 5) j = B j) (hb : ∀ j, j < N → byt (B j)) (hN : N ≤ 500) (hp : p ≤ N) (c8 : I (x + 271) 8 = nI N) (c9 : I (x + 271) 9 = nI p) (c15 : I (x + 271) 15 = nI 0) (c16 : I (x + 271) 16 = -1) (k : ∀ I2 J2, same I I2 (fun a => a = x + 271) → (∀ a, a ≠ x + 271 → J2 a = J a) → (∀ j, j < 9 ∨ 13 < j → I2 (x + 271) j = I (x + 271) j) → MR I2 J2 B (x + 271) N (lex B N p) → G (L, I2, J2, t)) : cal (d + 3) 181 [.ref (x + 271)] (L, I, J, t) (kV G X) := by
  refine e181 ?_
  -- behind the blanks
  have tok : ∀ s I2 J2 (l1 : Option Value), s = rN B N 4 p → s ≤ N → (s < N → tk (B s) ≠ 4) → GF I I2 J J2 x s s → Wp (cal (d + 2)) kc_181 [] (kV G X) (66, [some (.ref (x + 271)), l1], [.int (bA B N s)], (L, I2, J2, t)) := by
    intro s I2 J2 l1 hs hsN h4 ⟨g1, gJ, g2, g9, g10⟩
    have e8 : I2 (x + 271) 8 = nI N := by rw [g2 8 (by omega)]; exact c8
    have hB2 : ∀ I3, same I I3 (fun a => a = x + 271) → ∀ j, j < N → I3 (x + 271 + 5) j = B j := fun I3 h3 j hj => by rw [h3 _ (by omega)]; exact hB j hj
    refine t181_66 ?_
    by_cases q : s < N
    · have n4 := h4 q
      have n3 := tk_3 (b := B s)
      have t5 := tk_le (b := B s)
      have el : lex B N p = (tk (B s), s, (if tk (B s) = 0 then rN B N 0 s else if tk (B s) = 1 then rN B N 1 s else s + 1), (if tk (B s) = 1 then vl B s (rN B N 1 s - s) else 0), 0, 0) := by
        unfold lex
        rw [← hs, if_pos q]
      simp (disch := omega) only [vpT, nI_leI, nI_ltI, nI_eq, nleT, nleF, nltT, nltF, neqT, neqF, nI_add, pk_mul, subN, divN, nI_clamp, mI1, wrH, wrM1, wrM2, wrowH, wrowM, bI0, bI1, kIi, kVi, kRi, kLi, kIx, kVx, Option.some.injEq, exists_eq_left', true_and, and_true, true_implies, false_implies, implies_true, not_true_eq_false, not_false_eq_true, true_or, or_true, false_or, or_false, forall_eq, iteT, iteF, LK_ hK, LM_ hK.m, g9, e8]
      refine mp_isLetter (t181_92 ?_)
      rw [bA_0 hb]
      by_cases t0 : tk (B s) = 0
      · rw [decide_eq_true ⟨q, t0⟩, bI_t]
        rw [t0, if_pos rfl, if_neg (by decide)] at el
        simp (disch := omega) only [vpT, nI_leI, nI_ltI, nI_eq, nleT, nleF, nltT, nltF, neqT, neqF, nI_add, pk_mul, subN, divN, nI_clamp, mI1, wrH, wrM1, wrM2, wrowH, wrowM, bI0, bI1, kIi, kVi, kRi, kLi, kIx, kVx, Option.some.injEq, exists_eq_left', true_and, and_true, true_implies, false_implies, implies_true, not_true_eq_false, not_false_eq_true, true_or, or_true, false_or, or_false, forall_eq, iteT, iteF, LK_ hK, LM_ hK.m]
        have wl : ∀ f i I3 J3, N - (s + i) = f → s + i ≤ N → rN B N 0 (s + i) = rN B N 0 s → GF I I3 J J3 x (s + i) s → I3 (x + 271) 11 = nI 1001 → I3 (x + 271) 13 = nI i → J3 (x + 271) 14 = wd B s i → ∀ y1, Wp (cal (d + 2)) kc_181 [] (kV G X) (112, [some (.ref (x + 271)), some (.int y1)], [], (L, I3, J3, t)) := by
          intro f
          induction f with
          | zero =>
            intro i I3 J3 hf hi hr ⟨k1, kJ, k2, k9, k10⟩ k11 k13 k14 y1
            refine t181_112 ?_
            simp (disch := omega) only [vpT, nI_leI, nI_ltI, nI_eq, nleT, nleF, nltT, nltF, neqT, neqF, nI_add, pk_mul, subN, divN, nI_clamp, mI1, wrH, wrM1, wrM2, wrowH, wrowM, bI0, bI1, kIi, kVi, kRi, kLi, kIx, kVx, Option.some.injEq, exists_eq_left', true_and, and_true, true_implies, false_implies, implies_true, not_true_eq_false, not_false_eq_true, true_or, or_true, false_or, or_false, forall_eq, iteT, iteF, LK_ hK, LM_ hK.m, k9]
            refine mp_byteAt hK (hB2 I3 k1) hN (by rw [k2 8 (by omega)]; exact c8) hi (t181_120 ?_)
            refine mp_isLetter (t181_123 ?_)
            rw [bA_0 hb, decide_eq_false (fun w => by omega), bI_f]
            simp (disch := omega) only [vpT, nI_leI, nI_ltI, nI_eq, nleT, nleF, nltT, nltF, neqT, neqF, nI_add, pk_mul, subN, divN, nI_clamp, mI1, wrH, wrM1, wrM2, wrowH, wrowM, bI0, bI1, kIi, kVi, kRi, kLi, kIx, kVx, Option.some.injEq, exists_eq_left', true_and, and_true, true_implies, false_implies, implies_true, not_true_eq_false, not_false_eq_true, true_or, or_true, false_or, or_false, forall_eq, iteT, iteF, LK_ hK, LM_ hK.m]
            rw [rN_stop (fun w => by omega)] at hr
            refine k I3 J3 k1 kJ k2 ?_
            rw [el, ← hr]
            exact ⟨by rw [k2 8 (by omega)]; exact c8, k9, k10, k11, fun w => absurd (show (0 : Nat) = 1 from w) (by decide ), fun _ => ⟨by show _ = nI (s + i - s); rw [show s + i - s = i by omega]; exact k13, by show _ = wd B s (s + i - s); rw [show s + i - s = i by omega]; exact k14⟩, by rw [k2 15 (by omega)]; exact c15, by rw [k2 16 (by omega)]; exact c16⟩
          | succ f ih =>
            intro i I3 J3 hf hi hr ⟨k1, kJ, k2, k9, k10⟩ k11 k13 k14 y1
            refine t181_112 ?_
            simp (disch := omega) only [vpT, nI_leI, nI_ltI, nI_eq, nleT, nleF, nltT, nltF, neqT, neqF, nI_add, pk_mul, subN, divN, nI_clamp, mI1, wrH, wrM1, wrM2, wrowH, wrowM, bI0, bI1, kIi, kVi, kRi, kLi, kIx, kVx, Option.some.injEq, exists_eq_left', true_and, and_true, true_implies, false_implies, implies_true, not_true_eq_false, not_false_eq_true, true_or, or_true, false_or, or_false, forall_eq, iteT, iteF, LK_ hK, LM_ hK.m, k9]
            refine mp_byteAt hK (hB2 I3 k1) hN (by rw [k2 8 (by omega)]; exact c8) hi (t181_120 ?_)
            refine mp_isLetter (t181_123 ?_)
            rw [bA_0 hb]
            by_cases w0 : tk (B (s + i)) = 0
            · rw [decide_eq_true ⟨by omega, w0⟩, bI_t]
              have hr' : rN B N 0 (s + (i + 1)) = rN B N 0 s := by rw [← hr, rN_step (by omega) w0]; rfl
              have gf : ∀ J4, (∀ a, a ≠ x + 271 → J4 a = J3 a) → GF I (wr (wr I3 (x + 271) 13 (nI (i + 1))) (x + 271) 9 (nI (s + i + 1))) J J4 x (s + (i + 1)) s := fun J4 hJ4 => ⟨fun a ha => by rw [wrM1 ha, wrM1 ha]; exact k1 a ha, fun a ha => (hJ4 a ha).trans (kJ a ha), fun j hj => by rw [wrM2 (by omega), wrM2 (by omega)]; exact k2 j hj, wrH rfl rfl, by rw [wrM2 (by omega), wrM2 (by omega)]; exact k10⟩
              by_cases i8 : i < 8
              · simp (disch := omega) only [vpT, nI_leI, nI_ltI, nI_eq, nleT, nleF, nltT, nltF, neqT, neqF, nI_add, pk_mul, subN, divN, nI_clamp, mI1, wrH, wrM1, wrM2, wrowH, wrowM, bI0, bI1, kIi, kVi, kRi, kLi, kIx, kVx, Option.some.injEq, exists_eq_left', true_and, and_true, true_implies, false_implies, implies_true, not_true_eq_false, not_false_eq_true, true_or, or_true, false_or, or_false, forall_eq, iteT, iteF, LK_ hK, LM_ hK.m, k13]
                simp (disch := omega) only [vpT, nI_leI, nI_ltI, nI_eq, nleT, nleF, nltT, nltF, neqT, neqF, nI_add, pk_mul, subN, divN, nI_clamp, mI1, wrH, wrM1, wrM2, wrowH, wrowM, bI0, bI1, kIi, kVi, kRi, kLi, kIx, kVx, Option.some.injEq, exists_eq_left', true_and, and_true, true_implies, false_implies, implies_true, not_true_eq_false, not_false_eq_true, true_or, or_true, false_or, or_false, forall_eq, iteT, iteF, LK_ hK, LM_ hK.m, k9]
                refine mp_byteAt hK (hB2 I3 k1) hN (by rw [k2 8 (by omega)]; exact c8) hi (t181_152 ?_)
                have eb : bA B N (s + i) = B (s + i) := by unfold bA; rw [if_pos (by omega)]; exact (byt_c (hb _ (by omega))).2.2.2.2 (Or.inl w0)
                rw [eb]
                simp (disch := omega) only [vpT, nI_leI, nI_ltI, nI_eq, nleT, nleF, nltT, nltF, neqT, neqF, nI_add, pk_mul, subN, divN, nI_clamp, mI1, wrH, wrM1, wrM2, wrowH, wrowM, bI0, bI1, kIi, kVi, kRi, kLi, kIx, kVx, Option.some.injEq, exists_eq_left', true_and, and_true, true_implies, false_implies, implies_true, not_true_eq_false, not_false_eq_true, true_or, or_true, false_or, or_false, forall_eq, iteT, iteF, LK_ hK, LM_ hK.m, k13, k9]
                refine ih (i + 1) _ _ (by omega) (by omega) hr' (gf _ fun a ha => wrM1 ha) (by simp (disch := omega) only [vpT, nI_leI, nI_ltI, nI_eq, nleT, nleF, nltT, nltF, neqT, neqF, nI_add, pk_mul, subN, divN, nI_clamp, mI1, wrH, wrM1, wrM2, wrowH, wrowM, bI0, bI1, kIi, kVi, kRi, kLi, kIx, kVx, Option.some.injEq, exists_eq_left', true_and, and_true, true_implies, false_implies, implies_true, not_true_eq_false, not_false_eq_true, true_or, or_true, false_or, or_false, forall_eq, iteT, iteF, LK_ hK, LM_ hK.m]; exact k11) (by simp (disch := omega) only [vpT, nI_leI, nI_ltI, nI_eq, nleT, nleF, nltT, nltF, neqT, neqF, nI_add, pk_mul, subN, divN, nI_clamp, mI1, wrH, wrM1, wrM2, wrowH, wrowM, bI0, bI1, kIi, kVi, kRi, kLi, kIx, kVx, Option.some.injEq, exists_eq_left', true_and, and_true, true_implies, false_implies, implies_true, not_true_eq_false, not_false_eq_true, true_or, or_true, false_or, or_false, forall_eq, iteT, iteF, LK_ hK, LM_ hK.m]) ?_ y1
                rw [wrH rfl rfl, k14]
                show _ = if i < 8 then _ else _
                rw [if_pos i8]
              · simp (disch := omega) only [vpT, nI_leI, nI_ltI, nI_eq, nleT, nleF, nltT, nltF, neqT, neqF, nI_add, pk_mul, subN, divN, nI_clamp, mI1, wrH, wrM1, wrM2, wrowH, wrowM, bI0, bI1, kIi, kVi, kRi, kLi, kIx, kVx, Option.some.injEq, exists_eq_left', true_and, and_true, true_implies, false_implies, implies_true, not_true_eq_false, not_false_eq_true, true_or, or_true, false_or, or_false, forall_eq, iteT, iteF, LK_ hK, LM_ hK.m, k13, k9]
                refine ih (i + 1) _ _ (by omega) (by omega) hr' (gf _ fun a ha => rfl) (by simp (disch := omega) only [vpT, nI_leI, nI_ltI, nI_eq, nleT, nleF, nltT, nltF, neqT, neqF, nI_add, pk_mul, subN, divN, nI_clamp, mI1, wrH, wrM1, wrM2, wrowH, wrowM, bI0, bI1, kIi, kVi, kRi, kLi, kIx, kVx, Option.some.injEq, exists_eq_left', true_and, and_true, true_implies, false_implies, implies_true, not_true_eq_false, not_false_eq_true, true_or, or_true, false_or, or_false, forall_eq, iteT, iteF, LK_ hK, LM_ hK.m]; exact k11) (by simp (disch := omega) only [vpT, nI_leI, nI_ltI, nI_eq, nleT, nleF, nltT, nltF, neqT, neqF, nI_add, pk_mul, subN, divN, nI_clamp, mI1, wrH, wrM1, wrM2, wrowH, wrowM, bI0, bI1, kIi, kVi, kRi, kLi, kIx, kVx, Option.some.injEq, exists_eq_left', true_and, and_true, true_implies, false_implies, implies_true, not_true_eq_false, not_false_eq_true, true_or, or_true, false_or, or_false, forall_eq, iteT, iteF, LK_ hK, LM_ hK.m]) ?_ y1
                rw [k14]
                show _ = if i < 8 then _ else _
                rw [if_neg i8]
            · rw [decide_eq_false (fun w => w0 w.2), bI_f]
              simp (disch := omega) only [vpT, nI_leI, nI_ltI, nI_eq, nleT, nleF, nltT, nltF, neqT, neqF, nI_add, pk_mul, subN, divN, nI_clamp, mI1, wrH, wrM1, wrM2, wrowH, wrowM, bI0, bI1, kIi, kVi, kRi, kLi, kIx, kVx, Option.some.injEq, exists_eq_left', true_and, and_true, true_implies, false_implies, implies_true, not_true_eq_false, not_false_eq_true, true_or, or_true, false_or, or_false, forall_eq, iteT, iteF, LK_ hK, LM_ hK.m]
              rw [rN_stop (fun w => w0 w.2)] at hr
              refine k I3 J3 k1 kJ k2 ?_
              rw [el, ← hr]
              exact ⟨by rw [k2 8 (by omega)]; exact c8, k9, k10, k11, fun w => absurd (show (0 : Nat) = 1 from w) (by decide ), fun _ => ⟨by show _ = nI (s + i - s); rw [show s + i - s = i by omega]; exact k13, by show _ = wd B s (s + i - s); rw [show s + i - s = i by omega]; exact k14⟩, by rw [k2 15 (by omega)]; exact c15, by rw [k2 16 (by omega)]; exact c16⟩
        refine wl _ 0 _ _ rfl (by omega) rfl ⟨fun a ha => by rw [wrM1 ha, wrM1 ha]; exact g1 a ha, fun a ha => by rw [wrM1 ha]; exact gJ a ha, fun j hj => by rw [wrM2 (by omega), wrM2 (by omega)]; exact g2 j hj, by simp (disch := omega) only [vpT, nI_leI, nI_ltI, nI_eq, nleT, nleF, nltT, nltF, neqT, neqF, nI_add, pk_mul, subN, divN, nI_clamp, mI1, wrH, wrM1, wrM2, wrowH, wrowM, bI0, bI1, kIi, kVi, kRi, kLi, kIx, kVx, Option.some.injEq, exists_eq_left', true_and, and_true, true_implies, false_implies, implies_true, not_true_eq_false, not_false_eq_true, true_or, or_true, false_or, or_false, forall_eq, iteT, iteF, LK_ hK, LM_ hK.m]; exact g9, by simp (disch := omega) only [vpT, nI_leI, nI_ltI, nI_eq, nleT, nleF, nltT, nltF, neqT, neqF, nI_add, pk_mul, subN, divN, nI_clamp, mI1, wrH, wrM1, wrM2, wrowH, wrowM, bI0, bI1, kIi, kVi, kRi, kLi, kIx, kVx, Option.some.injEq, exists_eq_left', true_and, and_true, true_implies, false_implies, implies_true, not_true_eq_false, not_false_eq_true, true_or, or_true, false_or, or_false, forall_eq, iteT, iteF, LK_ hK, LM_ hK.m]; exact g10⟩ (by simp (disch := omega) only [vpT, nI_leI, nI_ltI, nI_eq, nleT, nleF, nltT, nltF, neqT, neqF, nI_add, pk_mul, subN, divN, nI_clamp, mI1, wrH, wrM1, wrM2, wrowH, wrowM, bI0, bI1, kIi, kVi, kRi, kLi, kIx, kVx, Option.some.injEq, exists_eq_left', true_and, and_true, true_implies, false_implies, implies_true, not_true_eq_false, not_false_eq_true, true_or, or_true, false_or, or_false, forall_eq, iteT, iteF, LK_ hK, LM_ hK.m]) (by simp (disch := omega) only [vpT, nI_leI, nI_ltI, nI_eq, nleT, nleF, nltT, nltF, neqT, neqF, nI_add, pk_mul, subN, divN, nI_clamp, mI1, wrH, wrM1, wrM2, wrowH, wrowM, bI0, bI1, kIi, kVi, kRi, kLi, kIx, kVx, Option.some.injEq, exists_eq_left', true_and, and_true, true_implies, false_implies, implies_true, not_true_eq_false, not_false_eq_true, true_or, or_true, false_or, or_false, forall_eq, iteT, iteF, LK_ hK, LM_ hK.m]) (wrH rfl rfl) _
      · rw [decide_eq_false (fun w => t0 w.2), bI_f]
        simp (disch := omega) only [vpT, nI_leI, nI_ltI, nI_eq, nleT, nleF, nltT, nltF, neqT, neqF, nI_add, pk_mul, subN, divN, nI_clamp, mI1, wrH, wrM1, wrM2, wrowH, wrowM, bI0, bI1, kIi, kVi, kRi, kLi, kIx, kVx, Option.some.injEq, exists_eq_left', true_and, and_true, true_implies, false_implies, implies_true, not_true_eq_false, not_false_eq_true, true_or, or_true, false_or, or_false, forall_eq, iteT, iteF, LK_ hK, LM_ hK.m]
        refine mp_isFigure (t181_190 ?_)
        rw [bA_1 hb]
        by_cases t1 : tk (B s) = 1
        · rw [decide_eq_true ⟨q, t1⟩, bI_t]
          rw [t1, if_neg (by decide), if_pos rfl, if_pos rfl] at el
          simp (disch := omega) only [vpT, nI_leI, nI_ltI, nI_eq, nleT, nleF, nltT, nltF, neqT, neqF, nI_add, pk_mul, subN, divN, nI_clamp, mI1, wrH, wrM1, wrM2, wrowH, wrowM, bI0, bI1, kIi, kVi, kRi, kLi, kIx, kVx, Option.some.injEq, exists_eq_left', true_and, and_true, true_implies, false_implies, implies_true, not_true_eq_false, not_false_eq_true, true_or, or_true, false_or, or_false, forall_eq, iteT, iteF, LK_ hK, LM_ hK.m]
          have nl : ∀ f i I3, N - (s + i) = f → s + i ≤ N → rN B N 1 (s + i) = rN B N 1 s → GF I I3 J J2 x (s + i) s → I3 (x + 271) 11 = nI 1000 → I3 (x + 271) 12 = nI (vl B s i) → ∀ y1, Wp (cal (d + 2)) kc_181 [] (kV G X) (205, [some (.ref (x + 271)), some (.int y1)], [], (L, I3, J2, t)) := by
            intro f
            induction f with
            | zero =>
              intro i I3 hf hi hr ⟨k1, kJ, k2, k9, k10⟩ k11 k12 y1
              refine t181_205 ?_
              simp (disch := omega) only [vpT, nI_leI, nI_ltI, nI_eq, nleT, nleF, nltT, nltF, neqT, neqF, nI_add, pk_mul, subN, divN, nI_clamp, mI1, wrH, wrM1, wrM2, wrowH, wrowM, bI0, bI1, kIi, kVi, kRi, kLi, kIx, kVx, Option.some.injEq, exists_eq_left', true_and, and_true, true_implies, false_implies, implies_true, not_true_eq_false, not_false_eq_true, true_or, or_true, false_or, or_false, forall_eq, iteT, iteF, LK_ hK, LM_ hK.m, k9]
              refine mp_byteAt hK (hB2 I3 k1) hN (by rw [k2 8 (by omega)]; exact c8) hi (t181_213 ?_)
              refine mp_isFigure (t181_216 ?_)
              rw [bA_1 hb, decide_eq_false (fun w => by omega), bI_f]
              simp (disch := omega) only [vpT, nI_leI, nI_ltI, nI_eq, nleT, nleF, nltT, nltF, neqT, neqF, nI_add, pk_mul, subN, divN, nI_clamp, mI1, wrH, wrM1, wrM2, wrowH, wrowM, bI0, bI1, kIi, kVi, kRi, kLi, kIx, kVx, Option.some.injEq, exists_eq_left', true_and, and_true, true_implies, false_implies, implies_true, not_true_eq_false, not_false_eq_true, true_or, or_true, false_or, or_false, forall_eq, iteT, iteF, LK_ hK, LM_ hK.m]
              rw [rN_stop (fun w => by omega)] at hr
              refine k I3 J2 k1 kJ k2 ?_
              rw [el, ← hr]
              exact ⟨by rw [k2 8 (by omega)]; exact c8, k9, k10, k11, fun _ => by show _ = nI (vl B s (s + i - s)); rw [show s + i - s = i by omega]; exact k12, fun w => absurd (show (1 : Nat) = 0 from w) (by decide ), by rw [k2 15 (by omega)]; exact c15, by rw [k2 16 (by omega)]; exact c16⟩
            | succ f ih =>
              intro i I3 hf hi hr ⟨k1, kJ, k2, k9, k10⟩ k11 k12 y1
              refine t181_205 ?_
              simp (disch := omega) only [vpT, nI_leI, nI_ltI, nI_eq, nleT, nleF, nltT, nltF, neqT, neqF, nI_add, pk_mul, subN, divN, nI_clamp, mI1, wrH, wrM1, wrM2, wrowH, wrowM, bI0, bI1, kIi, kVi, kRi, kLi, kIx, kVx, Option.some.injEq, exists_eq_left', true_and, and_true, true_implies, false_implies, implies_true, not_true_eq_false, not_false_eq_true, true_or, or_true, false_or, or_false, forall_eq, iteT, iteF, LK_ hK, LM_ hK.m, k9]
              refine mp_byteAt hK (hB2 I3 k1) hN (by rw [k2 8 (by omega)]; exact c8) hi (t181_213 ?_)
              refine mp_isFigure (t181_216 ?_)
              rw [bA_1 hb]
              by_cases w0 : tk (B (s + i)) = 1
              · rw [decide_eq_true ⟨by omega, w0⟩, bI_t]
                have hr' : rN B N 1 (s + (i + 1)) = rN B N 1 s := by rw [← hr, rN_step (by omega) w0]; rfl
                have vle := vl_le (B := B) (s := s) (k := i)
                have eb : bA B N (s + i) = B (s + i) := by unfold bA; rw [if_pos (by omega)]; exact (byt_c (hb _ (by omega))).2.2.2.2 (Or.inr w0)
                have hbb := (byt_c (hb _ (show s + i < N by omega))).2.2.1.mp w0
                rw [(byt_c (hb _ (show s + i < N by omega))).2.2.2.2 (Or.inr w0)] at hbb
                obtain ⟨dd, hd, ed⟩ := i_le (by decide) (Int32.le_trans (show nI 0 ≤ nI 48 by decide) hbb.1) hbb.2
                have hd48 : 48 ≤ dd := by
                  have := hbb.1
                  rw [ed] at this
                  exact (nI_leI (by decide) (by omega)).mp this
                have vs : vl B s (i + 1) = min 1000000 (10 * vl B s i + (dd - 48)) := by
                  show min 1000000 (10 * vl B s i + ((B (s + i)).toNatClampNeg - 48)) = _
                  rw [ed, nI_clamp (by omega)]
                simp (disch := omega) only [vpT, nI_leI, nI_ltI, nI_eq, nleT, nleF, nltT, nltF, neqT, neqF, nI_add, pk_mul, subN, divN, nI_clamp, mI1, wrH, wrM1, wrM2, wrowH, wrowM, bI0, bI1, kIi, kVi, kRi, kLi, kIx, kVx, Option.some.injEq, exists_eq_left', true_and, and_true, true_implies, false_implies, implies_true, not_true_eq_false, not_false_eq_true, true_or, or_true, false_or, or_false, forall_eq, iteT, iteF, LK_ hK, LM_ hK.m, k9, k12]
                refine mp_byteAt hK (hB2 I3 k1) hN (by rw [k2 8 (by omega)]; exact c8) hi (t181_237 ?_)
                rw [eb, ed]
                have em : (if 10 * vl B s i + dd - 48 < 1000000 then nI (10 * vl B s i + dd - 48) else nI 1000000) = nI (vl B s (i + 1)) := by
                  rw [vs]
                  split <;> congr 1 <;> omega
                simp (disch := omega) only [vpT, nI_leI, nI_ltI, nI_eq, nleT, nleF, nltT, nltF, neqT, neqF, nI_add, pk_mul, subN, divN, nI_clamp, mI1, wrH, wrM1, wrM2, wrowH, wrowM, bI0, bI1, kIi, kVi, kRi, kLi, kIx, kVx, Option.some.injEq, exists_eq_left', true_and, and_true, true_implies, false_implies, implies_true, not_true_eq_false, not_false_eq_true, true_or, or_true, false_or, or_false, forall_eq, iteT, iteF, LK_ hK, LM_ hK.m, k9, em]
                refine ih (i + 1) _ (by omega) (by omega) hr' ⟨fun a ha => by rw [wrM1 ha, wrM1 ha]; exact k1 a ha, kJ, fun j hj => by rw [wrM2 (by omega), wrM2 (by omega)]; exact k2 j hj, wrH rfl rfl, by rw [wrM2 (by omega), wrM2 (by omega)]; exact k10⟩ (by simp (disch := omega) only [vpT, nI_leI, nI_ltI, nI_eq, nleT, nleF, nltT, nltF, neqT, neqF, nI_add, pk_mul, subN, divN, nI_clamp, mI1, wrH, wrM1, wrM2, wrowH, wrowM, bI0, bI1, kIi, kVi, kRi, kLi, kIx, kVx, Option.some.injEq, exists_eq_left', true_and, and_true, true_implies, false_implies, implies_true, not_true_eq_false, not_false_eq_true, true_or, or_true, false_or, or_false, forall_eq, iteT, iteF, LK_ hK, LM_ hK.m]; exact k11) (by simp (disch := omega) only [vpT, nI_leI, nI_ltI, nI_eq, nleT, nleF, nltT, nltF, neqT, neqF, nI_add, pk_mul, subN, divN, nI_clamp, mI1, wrH, wrM1, wrM2, wrowH, wrowM, bI0, bI1, kIi, kVi, kRi, kLi, kIx, kVx, Option.some.injEq, exists_eq_left', true_and, and_true, true_implies, false_implies, implies_true, not_true_eq_false, not_false_eq_true, true_or, or_true, false_or, or_false, forall_eq, iteT, iteF, LK_ hK, LM_ hK.m]) y1
              · rw [decide_eq_false (fun w => w0 w.2), bI_f]
                simp (disch := omega) only [vpT, nI_leI, nI_ltI, nI_eq, nleT, nleF, nltT, nltF, neqT, neqF, nI_add, pk_mul, subN, divN, nI_clamp, mI1, wrH, wrM1, wrM2, wrowH, wrowM, bI0, bI1, kIi, kVi, kRi, kLi, kIx, kVx, Option.some.injEq, exists_eq_left', true_and, and_true, true_implies, false_implies, implies_true, not_true_eq_false, not_false_eq_true, true_or, or_true, false_or, or_false, forall_eq, iteT, iteF, LK_ hK, LM_ hK.m]
                rw [rN_stop (fun w => w0 w.2)] at hr
                refine k I3 J2 k1 kJ k2 ?_
                rw [el, ← hr]
                exact ⟨by rw [k2 8 (by omega)]; exact c8, k9, k10, k11, fun _ => by show _ = nI (vl B s (s + i - s)); rw [show s + i - s = i by omega]; exact k12, fun w => absurd (show (1 : Nat) = 0 from w) (by decide ), by rw [k2 15 (by omega)]; exact c15, by rw [k2 16 (by omega)]; exact c16⟩
          refine nl _ 0 _ rfl (by omega) rfl ⟨fun a ha => by rw [wrM1 ha, wrM1 ha]; exact g1 a ha, gJ, fun j hj => by rw [wrM2 (by omega), wrM2 (by omega)]; exact g2 j hj, by simp (disch := omega) only [vpT, nI_leI, nI_ltI, nI_eq, nleT, nleF, nltT, nltF, neqT, neqF, nI_add, pk_mul, subN, divN, nI_clamp, mI1, wrH, wrM1, wrM2, wrowH, wrowM, bI0, bI1, kIi, kVi, kRi, kLi, kIx, kVx, Option.some.injEq, exists_eq_left', true_and, and_true, true_implies, false_implies, implies_true, not_true_eq_false, not_false_eq_true, true_or, or_true, false_or, or_false, forall_eq, iteT, iteF, LK_ hK, LM_ hK.m]; exact g9, by simp (disch := omega) only [vpT, nI_leI, nI_ltI, nI_eq, nleT, nleF, nltT, nltF, neqT, neqF, nI_add, pk_mul, subN, divN, nI_clamp, mI1, wrH, wrM1, wrM2, wrowH, wrowM, bI0, bI1, kIi, kVi, kRi, kLi, kIx, kVx, Option.some.injEq, exists_eq_left', true_and, and_true, true_implies, false_implies, implies_true, not_true_eq_false, not_false_eq_true, true_or, or_true, false_or, or_false, forall_eq, iteT, iteF, LK_ hK, LM_ hK.m]; exact g10⟩ (by simp (disch := omega) only [vpT, nI_leI, nI_ltI, nI_eq, nleT, nleF, nltT, nltF, neqT, neqF, nI_add, pk_mul, subN, divN, nI_clamp, mI1, wrH, wrM1, wrM2, wrowH, wrowM, bI0, bI1, kIi, kVi, kRi, kLi, kIx, kVx, Option.some.injEq, exists_eq_left', true_and, and_true, true_implies, false_implies, implies_true, not_true_eq_false, not_false_eq_true, true_or, or_true, false_or, or_false, forall_eq, iteT, iteF, LK_ hK, LM_ hK.m]) (by simp (disch := omega) only [vpT, nI_leI, nI_ltI, nI_eq, nleT, nleF, nltT, nltF, neqT, neqF, nI_add, pk_mul, subN, divN, nI_clamp, mI1, wrH, wrM1, wrM2, wrowH, wrowM, bI0, bI1, kIi, kVi, kRi, kLi, kIx, kVx, Option.some.injEq, exists_eq_left', true_and, and_true, true_implies, false_implies, implies_true, not_true_eq_false, not_false_eq_true, true_or, or_true, false_or, or_false, forall_eq, iteT, iteF, LK_ hK, LM_ hK.m]; rfl) _
        · rw [decide_eq_false (fun w => t1 w.2), bI_f]
          rw [if_neg t0, if_neg t1, if_neg t1] at el
          have ex : bA B N s = B s &&& nI 255 := by unfold bA; rw [if_pos q]
          have bc := (byt_c (hb s q)).2.2.2.1
          by_cases t2 : tk (B s) = 2
          · have e59 : bA B N s = nI 59 := by rw [ex]; exact bc.mp t2
            rw [e59]
            simp (disch := omega) only [vpT, nI_leI, nI_ltI, nI_eq, nleT, nleF, nltT, nltF, neqT, neqF, nI_add, pk_mul, subN, divN, nI_clamp, mI1, wrH, wrM1, wrM2, wrowH, wrowM, bI0, bI1, kIi, kVi, kRi, kLi, kIx, kVx, Option.some.injEq, exists_eq_left', true_and, and_true, true_implies, false_implies, implies_true, not_true_eq_false, not_false_eq_true, true_or, or_true, false_or, or_false, forall_eq, iteT, iteF, LK_ hK, LM_ hK.m, g9]
            refine k _ J2 (fun a ha => by rw [wrM1 ha, wrM1 ha]; exact g1 a ha) gJ (fun j hj => by rw [wrM2 (by omega), wrM2 (by omega)]; exact g2 j hj) ?_
            rw [el, t2]
            exact ⟨by simp (disch := omega) only [vpT, nI_leI, nI_ltI, nI_eq, nleT, nleF, nltT, nltF, neqT, neqF, nI_add, pk_mul, subN, divN, nI_clamp, mI1, wrH, wrM1, wrM2, wrowH, wrowM, bI0, bI1, kIi, kVi, kRi, kLi, kIx, kVx, Option.some.injEq, exists_eq_left', true_and, and_true, true_implies, false_implies, implies_true, not_true_eq_false, not_false_eq_true, true_or, or_true, false_or, or_false, forall_eq, iteT, iteF, LK_ hK, LM_ hK.m]; rw [g2 8 (by omega)]; exact c8, by simp (disch := omega) only [vpT, nI_leI, nI_ltI, nI_eq, nleT, nleF, nltT, nltF, neqT, neqF, nI_add, pk_mul, subN, divN, nI_clamp, mI1, wrH, wrM1, wrM2, wrowH, wrowM, bI0, bI1, kIi, kVi, kRi, kLi, kIx, kVx, Option.some.injEq, exists_eq_left', true_and, and_true, true_implies, false_implies, implies_true, not_true_eq_false, not_false_eq_true, true_or, or_true, false_or, or_false, forall_eq, iteT, iteF, LK_ hK, LM_ hK.m], by simp (disch := omega) only [vpT, nI_leI, nI_ltI, nI_eq, nleT, nleF, nltT, nltF, neqT, neqF, nI_add, pk_mul, subN, divN, nI_clamp, mI1, wrH, wrM1, wrM2, wrowH, wrowM, bI0, bI1, kIi, kVi, kRi, kLi, kIx, kVx, Option.some.injEq, exists_eq_left', true_and, and_true, true_implies, false_implies, implies_true, not_true_eq_false, not_false_eq_true, true_or, or_true, false_or, or_false, forall_eq, iteT, iteF, LK_ hK, LM_ hK.m]; exact g10, by simp (disch := omega) only [vpT, nI_leI, nI_ltI, nI_eq, nleT, nleF, nltT, nltF, neqT, neqF, nI_add, pk_mul, subN, divN, nI_clamp, mI1, wrH, wrM1, wrM2, wrowH, wrowM, bI0, bI1, kIi, kVi, kRi, kLi, kIx, kVx, Option.some.injEq, exists_eq_left', true_and, and_true, true_implies, false_implies, implies_true, not_true_eq_false, not_false_eq_true, true_or, or_true, false_or, or_false, forall_eq, iteT, iteF, LK_ hK, LM_ hK.m]; rfl, fun w => absurd (show (2 : Nat) = 1 from w) (by decide ), fun w => absurd (show (2 : Nat) = 0 from w) (by decide ), by simp (disch := omega) only [vpT, nI_leI, nI_ltI, nI_eq, nleT, nleF, nltT, nltF, neqT, neqF, nI_add, pk_mul, subN, divN, nI_clamp, mI1, wrH, wrM1, wrM2, wrowH, wrowM, bI0, bI1, kIi, kVi, kRi, kLi, kIx, kVx, Option.some.injEq, exists_eq_left', true_and, and_true, true_implies, false_implies, implies_true, not_true_eq_false, not_false_eq_true, true_or, or_true, false_or, or_false, forall_eq, iteT, iteF, LK_ hK, LM_ hK.m]; rw [g2 15 (by omega)]; exact c15, by simp (disch := omega) only [vpT, nI_leI, nI_ltI, nI_eq, nleT, nleF, nltT, nltF, neqT, neqF, nI_add, pk_mul, subN, divN, nI_clamp, mI1, wrH, wrM1, wrM2, wrowH, wrowM, bI0, bI1, kIi, kVi, kRi, kLi, kIx, kVx, Option.some.injEq, exists_eq_left', true_and, and_true, true_implies, false_implies, implies_true, not_true_eq_false, not_false_eq_true, true_or, or_true, false_or, or_false, forall_eq, iteT, iteF, LK_ hK, LM_ hK.m]; rw [g2 16 (by omega)]; exact c16⟩
          · have e59 : (bA B N s = nI 59) = False := eq_false fun w => t2 (bc.mpr (by rw [← ex]; exact w))
            simp (disch := omega) only [vpT, nI_leI, nI_ltI, nI_eq, nleT, nleF, nltT, nltF, neqT, neqF, nI_add, pk_mul, subN, divN, nI_clamp, mI1, wrH, wrM1, wrM2, wrowH, wrowM, bI0, bI1, kIi, kVi, kRi, kLi, kIx, kVx, Option.some.injEq, exists_eq_left', true_and, and_true, true_implies, false_implies, implies_true, not_true_eq_false, not_false_eq_true, true_or, or_true, false_or, or_false, forall_eq, iteT, iteF, LK_ hK, LM_ hK.m, e59, g9]
            have t55 : tk (B s) = 5 := by omega
            refine k _ J2 (fun a ha => by rw [wrM1 ha, wrM1 ha]; exact g1 a ha) gJ (fun j hj => by rw [wrM2 (by omega), wrM2 (by omega)]; exact g2 j hj) ?_
            rw [el, t55]
            exact ⟨by simp (disch := omega) only [vpT, nI_leI, nI_ltI, nI_eq, nleT, nleF, nltT, nltF, neqT, neqF, nI_add, pk_mul, subN, divN, nI_clamp, mI1, wrH, wrM1, wrM2, wrowH, wrowM, bI0, bI1, kIi, kVi, kRi, kLi, kIx, kVx, Option.some.injEq, exists_eq_left', true_and, and_true, true_implies, false_implies, implies_true, not_true_eq_false, not_false_eq_true, true_or, or_true, false_or, or_false, forall_eq, iteT, iteF, LK_ hK, LM_ hK.m]; rw [g2 8 (by omega)]; exact c8, by simp (disch := omega) only [vpT, nI_leI, nI_ltI, nI_eq, nleT, nleF, nltT, nltF, neqT, neqF, nI_add, pk_mul, subN, divN, nI_clamp, mI1, wrH, wrM1, wrM2, wrowH, wrowM, bI0, bI1, kIi, kVi, kRi, kLi, kIx, kVx, Option.some.injEq, exists_eq_left', true_and, and_true, true_implies, false_implies, implies_true, not_true_eq_false, not_false_eq_true, true_or, or_true, false_or, or_false, forall_eq, iteT, iteF, LK_ hK, LM_ hK.m], by simp (disch := omega) only [vpT, nI_leI, nI_ltI, nI_eq, nleT, nleF, nltT, nltF, neqT, neqF, nI_add, pk_mul, subN, divN, nI_clamp, mI1, wrH, wrM1, wrM2, wrowH, wrowM, bI0, bI1, kIi, kVi, kRi, kLi, kIx, kVx, Option.some.injEq, exists_eq_left', true_and, and_true, true_implies, false_implies, implies_true, not_true_eq_false, not_false_eq_true, true_or, or_true, false_or, or_false, forall_eq, iteT, iteF, LK_ hK, LM_ hK.m]; exact g10, by simp (disch := omega) only [vpT, nI_leI, nI_ltI, nI_eq, nleT, nleF, nltT, nltF, neqT, neqF, nI_add, pk_mul, subN, divN, nI_clamp, mI1, wrH, wrM1, wrM2, wrowH, wrowM, bI0, bI1, kIi, kVi, kRi, kLi, kIx, kVx, Option.some.injEq, exists_eq_left', true_and, and_true, true_implies, false_implies, implies_true, not_true_eq_false, not_false_eq_true, true_or, or_true, false_or, or_false, forall_eq, iteT, iteF, LK_ hK, LM_ hK.m]; rfl, fun w => absurd (show (5 : Nat) = 1 from w) (by decide ), fun w => absurd (show (5 : Nat) = 0 from w) (by decide ), by simp (disch := omega) only [vpT, nI_leI, nI_ltI, nI_eq, nleT, nleF, nltT, nltF, neqT, neqF, nI_add, pk_mul, subN, divN, nI_clamp, mI1, wrH, wrM1, wrM2, wrowH, wrowM, bI0, bI1, kIi, kVi, kRi, kLi, kIx, kVx, Option.some.injEq, exists_eq_left', true_and, and_true, true_implies, false_implies, implies_true, not_true_eq_false, not_false_eq_true, true_or, or_true, false_or, or_false, forall_eq, iteT, iteF, LK_ hK, LM_ hK.m]; rw [g2 15 (by omega)]; exact c15, by simp (disch := omega) only [vpT, nI_leI, nI_ltI, nI_eq, nleT, nleF, nltT, nltF, neqT, neqF, nI_add, pk_mul, subN, divN, nI_clamp, mI1, wrH, wrM1, wrM2, wrowH, wrowM, bI0, bI1, kIi, kVi, kRi, kLi, kIx, kVx, Option.some.injEq, exists_eq_left', true_and, and_true, true_implies, false_implies, implies_true, not_true_eq_false, not_false_eq_true, true_or, or_true, false_or, or_false, forall_eq, iteT, iteF, LK_ hK, LM_ hK.m]; rw [g2 16 (by omega)]; exact c16⟩
    · have eN : s = N := by omega
      have el : lex B N p = (3, s, s, 0, 0, 0) := by
        unfold lex
        rw [← hs, if_neg q]
      simp (disch := omega) only [vpT, nI_leI, nI_ltI, nI_eq, nleT, nleF, nltT, nltF, neqT, neqF, nI_add, pk_mul, subN, divN, nI_clamp, mI1, wrH, wrM1, wrM2, wrowH, wrowM, bI0, bI1, kIi, kVi, kRi, kLi, kIx, kVx, Option.some.injEq, exists_eq_left', true_and, and_true, true_implies, false_implies, implies_true, not_true_eq_false, not_false_eq_true, true_or, or_true, false_or, or_false, forall_eq, iteT, iteF, LK_ hK, LM_ hK.m, g9, e8]
      refine k _ J2 (fun a ha => by rw [wrM1 ha]; exact g1 a ha) gJ (fun j hj => by rw [wrM2 (by omega)]; exact g2 j hj) ?_
      rw [el]
      exact ⟨by simp (disch := omega) only [vpT, nI_leI, nI_ltI, nI_eq, nleT, nleF, nltT, nltF, neqT, neqF, nI_add, pk_mul, subN, divN, nI_clamp, mI1, wrH, wrM1, wrM2, wrowH, wrowM, bI0, bI1, kIi, kVi, kRi, kLi, kIx, kVx, Option.some.injEq, exists_eq_left', true_and, and_true, true_implies, false_implies, implies_true, not_true_eq_false, not_false_eq_true, true_or, or_true, false_or, or_false, forall_eq, iteT, iteF, LK_ hK, LM_ hK.m]; rw [g2 8 (by omega)]; exact c8, by simp (disch := omega) only [vpT, nI_leI, nI_ltI, nI_eq, nleT, nleF, nltT, nltF, neqT, neqF, nI_add, pk_mul, subN, divN, nI_clamp, mI1, wrH, wrM1, wrM2, wrowH, wrowM, bI0, bI1, kIi, kVi, kRi, kLi, kIx, kVx, Option.some.injEq, exists_eq_left', true_and, and_true, true_implies, false_implies, implies_true, not_true_eq_false, not_false_eq_true, true_or, or_true, false_or, or_false, forall_eq, iteT, iteF, LK_ hK, LM_ hK.m]; exact g9, by simp (disch := omega) only [vpT, nI_leI, nI_ltI, nI_eq, nleT, nleF, nltT, nltF, neqT, neqF, nI_add, pk_mul, subN, divN, nI_clamp, mI1, wrH, wrM1, wrM2, wrowH, wrowM, bI0, bI1, kIi, kVi, kRi, kLi, kIx, kVx, Option.some.injEq, exists_eq_left', true_and, and_true, true_implies, false_implies, implies_true, not_true_eq_false, not_false_eq_true, true_or, or_true, false_or, or_false, forall_eq, iteT, iteF, LK_ hK, LM_ hK.m]; exact g10, by simp (disch := omega) only [vpT, nI_leI, nI_ltI, nI_eq, nleT, nleF, nltT, nltF, neqT, neqF, nI_add, pk_mul, subN, divN, nI_clamp, mI1, wrH, wrM1, wrM2, wrowH, wrowM, bI0, bI1, kIi, kVi, kRi, kLi, kIx, kVx, Option.some.injEq, exists_eq_left', true_and, and_true, true_implies, false_implies, implies_true, not_true_eq_false, not_false_eq_true, true_or, or_true, false_or, or_false, forall_eq, iteT, iteF, LK_ hK, LM_ hK.m]; rfl, fun w => absurd (show (3 : Nat) = 1 from w) (by decide ), fun w => absurd (show (3 : Nat) = 0 from w) (by decide ), by simp (disch := omega) only [vpT, nI_leI, nI_ltI, nI_eq, nleT, nleF, nltT, nltF, neqT, neqF, nI_add, pk_mul, subN, divN, nI_clamp, mI1, wrH, wrM1, wrM2, wrowH, wrowM, bI0, bI1, kIi, kVi, kRi, kLi, kIx, kVx, Option.some.injEq, exists_eq_left', true_and, and_true, true_implies, false_implies, implies_true, not_true_eq_false, not_false_eq_true, true_or, or_true, false_or, or_false, forall_eq, iteT, iteF, LK_ hK, LM_ hK.m]; rw [g2 15 (by omega)]; exact c15, by simp (disch := omega) only [vpT, nI_leI, nI_ltI, nI_eq, nleT, nleF, nltT, nltF, neqT, neqF, nI_add, pk_mul, subN, divN, nI_clamp, mI1, wrH, wrM1, wrM2, wrowH, wrowM, bI0, bI1, kIi, kVi, kRi, kLi, kIx, kVx, Option.some.injEq, exists_eq_left', true_and, and_true, true_implies, false_implies, implies_true, not_true_eq_false, not_false_eq_true, true_or, or_true, false_or, or_false, forall_eq, iteT, iteF, LK_ hK, LM_ hK.m]; rw [g2 16 (by omega)]; exact c16⟩
  have main : ∀ f q I2 (l1 : Option Value), N - q = f → q ≤ N → rN B N 4 q = rN B N 4 p → same I I2 (fun a => a = x + 271) → (∀ j, j ≠ 9 → I2 (x + 271) j = I (x + 271) j) → I2 (x + 271) 9 = nI q → Wp (cal (d + 2)) kc_181 [] (kV G X) (0, [some (.ref (x + 271)), l1], [], (L, I2, J, t)) := by
    intro f
    induction f with
    | zero =>
      intro q I2 l1 hf hq hr hs g2 g9
      have e8 : I2 (x + 271) 8 = nI N := by rw [g2 8 (by omega)]; exact c8
      refine t181_0 ?_
      simp (disch := omega) only [vpT, nI_leI, nI_ltI, nI_eq, nleT, nleF, nltT, nltF, neqT, neqF, nI_add, pk_mul, subN, divN, nI_clamp, mI1, wrH, wrM1, wrM2, wrowH, wrowM, bI0, bI1, kIi, kVi, kRi, kLi, kIx, kVx, Option.some.injEq, exists_eq_left', true_and, and_true, true_implies, false_implies, implies_true, not_true_eq_false, not_false_eq_true, true_or, or_true, false_or, or_false, forall_eq, iteT, iteF, LK_ hK, LM_ hK.m, g9, e8]
      rw [rN_stop (fun w => by omega)] at hr
      refine mp_byteAt hK (fun j hj => by rw [wrM1 (by omega), hs _ (by omega)]; exact hB j hj) hN (by simp (disch := omega) only [vpT, nI_leI, nI_ltI, nI_eq, nleT, nleF, nltT, nltF, neqT, neqF, nI_add, pk_mul, subN, divN, nI_clamp, mI1, wrH, wrM1, wrM2, wrowH, wrowM, bI0, bI1, kIi, kVi, kRi, kLi, kIx, kVx, Option.some.injEq, exists_eq_left', true_and, and_true, true_implies, false_implies, implies_true, not_true_eq_false, not_false_eq_true, true_or, or_true, false_or, or_false, forall_eq, iteT, iteF, LK_ hK, LM_ hK.m]; exact e8) hq (tok q _ J l1 hr hq (fun w => by omega) ⟨fun a ha => by rw [wrM1 ha]; exact hs a ha, fun _ _ => rfl, fun j hj => by rw [wrM2 (by omega)]; exact g2 j (by omega), by simp (disch := omega) only [vpT, nI_leI, nI_ltI, nI_eq, nleT, nleF, nltT, nltF, neqT, neqF, nI_add, pk_mul, subN, divN, nI_clamp, mI1, wrH, wrM1, wrM2, wrowH, wrowM, bI0, bI1, kIi, kVi, kRi, kLi, kIx, kVx, Option.some.injEq, exists_eq_left', true_and, and_true, true_implies, false_implies, implies_true, not_true_eq_false, not_false_eq_true, true_or, or_true, false_or, or_false, forall_eq, iteT, iteF, LK_ hK, LM_ hK.m]; exact g9, by simp (disch := omega) only [vpT, nI_leI, nI_ltI, nI_eq, nleT, nleF, nltT, nltF, neqT, neqF, nI_add, pk_mul, subN, divN, nI_clamp, mI1, wrH, wrM1, wrM2, wrowH, wrowM, bI0, bI1, kIi, kVi, kRi, kLi, kIx, kVx, Option.some.injEq, exists_eq_left', true_and, and_true, true_implies, false_implies, implies_true, not_true_eq_false, not_false_eq_true, true_or, or_true, false_or, or_false, forall_eq, iteT, iteF, LK_ hK, LM_ hK.m]⟩)
    | succ f ih =>
      intro q I2 l1 hf hq hr hs g2 g9
      have e8 : I2 (x + 271) 8 = nI N := by rw [g2 8 (by omega)]; exact c8
      have hB2 : ∀ j, j < N → I2 (x + 271 + 5) j = B j := fun j hj => by rw [hs _ (by omega)]; exact hB j hj
      have ex : bA B N q = B q &&& nI 255 := by unfold bA; rw [if_pos (by omega)]
      have bc := (byt_c (hb q (by omega))).1
      have nx : tk (B q) = 4 → ∀ l1, Wp (cal (d + 2)) kc_181 [] (kV G X) (0, [some (.ref (x + 271)), l1], [], (L, wr I2 (x + 271) 9 (nI (q + 1)), J, t)) := fun w l1 => ih (q + 1) _ l1 (by omega) (by omega) (by rw [← hr, rN_step (by omega) w]) (fun a ha => by rw [wrM1 ha]; exact hs a ha) (fun j hj => by rw [wrM2 hj]; exact g2 j hj) (wrH rfl rfl)
      refine t181_0 ?_
      simp (disch := omega) only [vpT, nI_leI, nI_ltI, nI_eq, nleT, nleF, nltT, nltF, neqT, neqF, nI_add, pk_mul, subN, divN, nI_clamp, mI1, wrH, wrM1, wrM2, wrowH, wrowM, bI0, bI1, kIi, kVi, kRi, kLi, kIx, kVx, Option.some.injEq, exists_eq_left', true_and, and_true, true_implies, false_implies, implies_true, not_true_eq_false, not_false_eq_true, true_or, or_true, false_or, or_false, forall_eq, iteT, iteF, LK_ hK, LM_ hK.m, g9, e8]
      refine mp_byteAt hK hB2 hN e8 hq (t181_19 ?_)
      rw [ex]
      by_cases w1 : (B q &&& nI 255) = nI 32
      · rw [w1]
        simp (disch := omega) only [vpT, nI_leI, nI_ltI, nI_eq, nleT, nleF, nltT, nltF, neqT, neqF, nI_add, pk_mul, subN, divN, nI_clamp, mI1, wrH, wrM1, wrM2, wrowH, wrowM, bI0, bI1, kIi, kVi, kRi, kLi, kIx, kVx, Option.some.injEq, exists_eq_left', true_and, and_true, true_implies, false_implies, implies_true, not_true_eq_false, not_false_eq_true, true_or, or_true, false_or, or_false, forall_eq, iteT, iteF, LK_ hK, LM_ hK.m, g9]
        exact nx (bc.mpr (Or.inl w1)) _
      · have w1' : ((B q &&& nI 255) = nI 32) = False := eq_false w1
        simp (disch := omega) only [vpT, nI_leI, nI_ltI, nI_eq, nleT, nleF, nltT, nltF, neqT, neqF, nI_add, pk_mul, subN, divN, nI_clamp, mI1, wrH, wrM1, wrM2, wrowH, wrowM, bI0, bI1, kIi, kVi, kRi, kLi, kIx, kVx, Option.some.injEq, exists_eq_left', true_and, and_true, true_implies, false_implies, implies_true, not_true_eq_false, not_false_eq_true, true_or, or_true, false_or, or_false, forall_eq, iteT, iteF, LK_ hK, LM_ hK.m, w1', g9]
        refine mp_byteAt hK hB2 hN e8 hq (t181_32 ?_)
        rw [ex]
        by_cases w2 : (B q &&& nI 255) = nI 10
        · rw [w2]
          simp (disch := omega) only [vpT, nI_leI, nI_ltI, nI_eq, nleT, nleF, nltT, nltF, neqT, neqF, nI_add, pk_mul, subN, divN, nI_clamp, mI1, wrH, wrM1, wrM2, wrowH, wrowM, bI0, bI1, kIi, kVi, kRi, kLi, kIx, kVx, Option.some.injEq, exists_eq_left', true_and, and_true, true_implies, false_implies, implies_true, not_true_eq_false, not_false_eq_true, true_or, or_true, false_or, or_false, forall_eq, iteT, iteF, LK_ hK, LM_ hK.m, g9]
          exact nx (bc.mpr (Or.inr w2)) _
        · have w2' : ((B q &&& nI 255) = nI 10) = False := eq_false w2
          have n4 : tk (B q) ≠ 4 := fun w => (bc.mp w).elim w1 w2
          rw [rN_stop (fun w => n4 w.2)] at hr
          simp (disch := omega) only [vpT, nI_leI, nI_ltI, nI_eq, nleT, nleF, nltT, nltF, neqT, neqF, nI_add, pk_mul, subN, divN, nI_clamp, mI1, wrH, wrM1, wrM2, wrowH, wrowM, bI0, bI1, kIi, kVi, kRi, kLi, kIx, kVx, Option.some.injEq, exists_eq_left', true_and, and_true, true_implies, false_implies, implies_true, not_true_eq_false, not_false_eq_true, true_or, or_true, false_or, or_false, forall_eq, iteT, iteF, LK_ hK, LM_ hK.m, w2', g9]
          refine mp_byteAt hK (fun j hj => by rw [wrM1 (by omega)]; exact hB2 j hj) hN (by simp (disch := omega) only [vpT, nI_leI, nI_ltI, nI_eq, nleT, nleF, nltT, nltF, neqT, neqF, nI_add, pk_mul, subN, divN, nI_clamp, mI1, wrH, wrM1, wrM2, wrowH, wrowM, bI0, bI1, kIi, kVi, kRi, kLi, kIx, kVx, Option.some.injEq, exists_eq_left', true_and, and_true, true_implies, false_implies, implies_true, not_true_eq_false, not_false_eq_true, true_or, or_true, false_or, or_false, forall_eq, iteT, iteF, LK_ hK, LM_ hK.m]; exact e8) hq (tok q _ J _ hr hq (fun _ => n4) ⟨fun a ha => by rw [wrM1 ha]; exact hs a ha, fun _ _ => rfl, fun j hj => by rw [wrM2 (by omega)]; exact g2 j (by omega), by simp (disch := omega) only [vpT, nI_leI, nI_ltI, nI_eq, nleT, nleF, nltT, nltF, neqT, neqF, nI_add, pk_mul, subN, divN, nI_clamp, mI1, wrH, wrM1, wrM2, wrowH, wrowM, bI0, bI1, kIi, kVi, kRi, kLi, kIx, kVx, Option.some.injEq, exists_eq_left', true_and, and_true, true_implies, false_implies, implies_true, not_true_eq_false, not_false_eq_true, true_or, or_true, false_or, or_false, forall_eq, iteT, iteF, LK_ hK, LM_ hK.m]; exact g9, by simp (disch := omega) only [vpT, nI_leI, nI_ltI, nI_eq, nleT, nleF, nltT, nltF, neqT, neqF, nI_add, pk_mul, subN, divN, nI_clamp, mI1, wrH, wrM1, wrM2, wrowH, wrowM, bI0, bI1, kIi, kVi, kRi, kLi, kIx, kVx, Option.some.injEq, exists_eq_left', true_and, and_true, true_implies, false_implies, implies_true, not_true_eq_false, not_false_eq_true, true_or, or_true, false_or, or_false, forall_eq, iteT, iteF, LK_ hK, LM_ hK.m]⟩)
  exact main _ p I _ rfl hp rfl same.rf (fun _ _ => rfl) c9
theorem mp_goes (hK : LK L x) (hB : ∀ j, j < N → I (x + 271 + 5) j = B j) (hb : ∀ j, j < N → byt (B j)) (hN : N ≤ 500) (hM : MR I J B (x + 271) N P) (hP : PW B N P) (h0 : P.2.2.2.2.1 = 0) (k : ∀ I2 J2, same I I2 (fun a => a = x + 271) → (∀ a, a ≠ x + 271 → J2 a = J a) → (∀ j, j < 9 ∨ 13 < j → I2 (x + 271) j = I (x + 271) j) → MR I2 J2 B (x + 271) N (lex B N P.2.2.1) → G (L, I2, J2, t)) : cal (d + 3) 181 [.ref (x + 271)] (L, I, J, t) (kV G X) := by
  obtain ⟨c8, c9, c10, c11, c12, c13, c15, c16⟩ := hM
  rw [h0] at c15 c16
  rw [if_pos rfl] at c16
  exact mp_goes0 hK hB hb hN hP.2.1 c8 c9 c15 c16 k
end GOES
