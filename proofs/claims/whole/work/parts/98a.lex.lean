/-! Texts in tokens: what both readers come to. -/
def tk (b : Int32) : Nat := if b = nI 32 ∨ b = nI 10 then 4 else if nI 97 ≤ b ∧ b ≤ nI 122 then 0 else if nI 48 ≤ b ∧ b ≤ nI 57 then 1 else if b = nI 59 then 2 else 5
theorem tk_le {b : Int32} : tk b ≤ 5 := by
  unfold tk
  repeat' split
  all_goals decide
theorem tk_3 {b : Int32} : tk b ≠ 3 := by
  unfold tk
  repeat' split
  all_goals decide
def rn (B : Nat → Int32) (N c : Nat) : Nat → Nat → Nat
  | 0, k => k
  | f + 1, k => if k < N ∧ tk (B k) = c then rn B N c f (k + 1) else k
def rN (B : Nat → Int32) (N c k : Nat) : Nat := rn B N c (N - k) k
section LEX
variable {B : Nat → Int32} {N c k : Nat}
theorem rN_step (h : k < N) (h2 : tk (B k) = c) : rN B N c k = rN B N c (k + 1) := by
  unfold rN
  rw [show N - k = N - (k + 1) + 1 by omega]
  exact if_pos ⟨h, h2⟩
theorem rN_stop (h : ¬ (k < N ∧ tk (B k) = c)) : rN B N c k = k := by
  unfold rN
  cases N - k with
  | zero => rfl
  | succ f => exact if_neg h
theorem rn_prop : ∀ f k, N - k = f → k ≤ N → k ≤ rn B N c f k ∧ rn B N c f k ≤ N ∧ (∀ j, k ≤ j → j < rn B N c f k → tk (B j) = c) ∧ ¬ (rn B N c f k < N ∧ tk (B (rn B N c f k)) = c)
  | 0, k, h, h2 => ⟨Nat.le_refl _, h2, fun j h1 h3 => absurd h3 (Nat.not_lt.mpr h1), fun q => by have : k < N := q.1; omega⟩
  | f + 1, k, h, h2 => by
    unfold rn
    by_cases q : k < N ∧ tk (B k) = c
    · rw [if_pos q]
      obtain ⟨i1, i2, i3, i4⟩ := rn_prop f (k + 1) (by omega) (by omega)
      refine ⟨by omega, i2, fun j h1 h3 => ?_, i4⟩
      by_cases e : j = k
      · rw [e]; exact q.2
      · exact i3 j (by omega) h3
    · rw [if_neg q]
      exact ⟨Nat.le_refl _, h2, fun j h1 h3 => absurd h3 (Nat.not_lt.mpr h1), q⟩
theorem rN_prop (h : k ≤ N) : k ≤ rN B N c k ∧ rN B N c k ≤ N ∧ (∀ j, k ≤ j → j < rN B N c k → tk (B j) = c) ∧ ¬ (rN B N c k < N ∧ tk (B (rN B N c k)) = c) := rn_prop _ k rfl h
end LEX
/-- the number that so many figures tell -/
def vl (B : Nat → Int32) (s : Nat) : Nat → Nat
  | 0 => 0
  | k + 1 => min 1000000 (10 * vl B s k + ((B (s + k)).toNatClampNeg - 48))
theorem vl_le {B : Nat → Int32} {s : Nat} : ∀ {k : Nat}, vl B s k ≤ 1000000
  | 0 => Nat.zero_le _
  | k + 1 => Nat.min_le_left _ _
/-- a token: its kind, where it begins and ends, its number; the fault and its place -/
abbrev PS : Type := Nat × Nat × Nat × Nat × Nat × Nat
def lex (B : Nat → Int32) (N p : Nat) : PS := if rN B N 4 p < N then (tk (B (rN B N 4 p)), rN B N 4 p, (if tk (B (rN B N 4 p)) = 0 then rN B N 0 (rN B N 4 p) else if tk (B (rN B N 4 p)) = 1 then rN B N 1 (rN B N 4 p) else rN B N 4 p + 1), (if tk (B (rN B N 4 p)) = 1 then vl B (rN B N 4 p) (rN B N 1 (rN B N 4 p) - rN B N 4 p) else 0), 0, 0) else (3, rN B N 4 p, rN B N 4 p, 0, 0, 0)
def pst (B : Nat → Int32) (N : Nat) (P : PS) : PS := if P.2.2.2.2.1 = 0 then lex B N P.2.2.1 else P
def rfs (P : PS) (k : Nat) : PS := if P.2.2.2.2.1 = 0 then (P.1, P.2.1, P.2.2.1, P.2.2.2.1, k, P.2.1) else P
def PW (B : Nat → Int32) (N : Nat) (P : PS) : Prop := P.2.1 ≤ P.2.2.1 ∧ P.2.2.1 ≤ N ∧ P.1 ≤ 5 ∧ P.2.2.2.2.1 ≤ 3 ∧ (P.1 = 0 → ∀ j, P.2.1 ≤ j → j < P.2.2.1 → tk (B j) = 0) ∧ P.2.2.2.1 ≤ 1000000 ∧ (P.1 ≠ 3 → P.2.1 < P.2.2.1) ∧ P.2.2.2.2.2 ≤ N
theorem PW_lex {B : Nat → Int32} {N p : Nat} (h : p ≤ N) : PW B N (lex B N p) ∧ p ≤ (lex B N p).2.1 := by
  obtain ⟨a1, a2, a3, a4⟩ := rN_prop (B := B) (c := 4) h
  unfold lex
  generalize rN B N 4 p = s at a1 a2 a3 a4
  by_cases q : s < N
  · rw [if_pos q]
    obtain ⟨b1, b2, b3, b4⟩ := rN_prop (B := B) (c := 0) a2
    obtain ⟨c1, c2, c3, c4⟩ := rN_prop (B := B) (c := 1) a2
    have hv := vl_le (B := B) (s := s) (k := rN B N 1 s - s)
    have ht := tk_le (b := B s)
    by_cases t0 : tk (B s) = 0
    · have e := rN_step q t0
      obtain ⟨d1, -⟩ := rN_prop (B := B) (c := 0) (show s + 1 ≤ N by omega)
      rw [if_pos t0, if_neg (by omega)]
      exact ⟨⟨b1, b2, ht, Nat.zero_le _, fun _ => b3, Nat.zero_le _, fun _ => (by show s < rN B N 0 s; omega), Nat.zero_le _⟩, a1⟩
    · by_cases t1 : tk (B s) = 1
      · have e := rN_step q t1
        obtain ⟨d1, -⟩ := rN_prop (B := B) (c := 1) (show s + 1 ≤ N by omega)
        rw [if_neg t0, if_pos t1, if_pos t1]
        exact ⟨⟨c1, c2, ht, Nat.zero_le _, fun w => absurd w t0, hv, fun _ => (by show s < rN B N 1 s; omega), Nat.zero_le _⟩, a1⟩
      · rw [if_neg t0, if_neg t1, if_neg t1]
        exact ⟨⟨(by show s ≤ s + 1; omega), (by show s + 1 ≤ N; omega), ht, Nat.zero_le _, fun w => absurd w t0, Nat.zero_le _, fun _ => (by show s < s + 1; omega), Nat.zero_le _⟩, a1⟩
  · rw [if_neg q]
    exact ⟨⟨Nat.le_refl _, a2, (by show 3 ≤ 5; decide), Nat.zero_le _, fun w => absurd (show (3 : Nat) = 0 from w) (by decide), Nat.zero_le _, fun w => absurd rfl w, Nat.zero_le _⟩, a1⟩
theorem PW_pst {B : Nat → Int32} {N : Nat} {P : PS} (h : PW B N P) : PW B N (pst B N P) := by
  unfold pst
  split
  · exact (PW_lex h.2.1).1
  · exact h
theorem PW_rfs {B : Nat → Int32} {N k : Nat} {P : PS} (h : PW B N P) (hk : k ≤ 3) : PW B N (rfs P k) := by
  obtain ⟨h1, h2, h3, h4, h5, h6, h7, h8⟩ := h
  unfold rfs
  split
  · exact ⟨h1, h2, h3, hk, h5, h6, h7, by show P.2.1 ≤ N; omega⟩
  · exact ⟨h1, h2, h3, h4, h5, h6, h7, h8⟩
def VC (y : Int32) (v : Nat) : Prop := ∃ c, c ≤ 1000000 ∧ y = nI c ∧ (v < 100000 → c = v) ∧ (c < 100000 → c = v)
/-- the class's reader is there -/
def CR (I : Nat → Nat → Int32) (x N : Nat) (P : PS) : Prop := I (x + 57) 2 = nI N ∧ I (x + 57) 3 = nI P.2.2.1 ∧ I (x + 57) 4 = nI P.1 ∧ I (x + 57) 5 = nI P.2.1 ∧ (P.1 = 1 → VC (I (x + 57) 6) P.2.2.2.1) ∧ I (x + 57) 7 = nI P.2.2.2.2.1 ∧ (P.2.2.2.2.1 ≠ 0 → I (x + 57) 8 = nI P.2.2.2.2.2)
def RF (I I2 : Nat → Nat → Int32) (x N q t s : Nat) : Prop := same I I2 (fun a => a = x + 57) ∧ I2 (x + 57) 2 = nI N ∧ I2 (x + 57) 3 = nI q ∧ I2 (x + 57) 4 = nI t ∧ I2 (x + 57) 5 = nI s ∧ I2 (x + 57) 7 = nI 0
section STEP
variable {I : Nat → Nat → Int32} {J : Nat → Nat → Int64} {L : hL} {x N : Nat} {B : Nat → Int32} {P : PS} {t : tl} {F : Int32 → hp → Prop} {G : hp → Prop} {X : Nat → hp → Prop} {d : Nat}
theorem sp_tok {H : hp} {b : Int32} (k : F (nI (tk b)) H) : cal (d + 1) 66 [.int b] H (kI F X) := by
  refine e66 (t66_0 ?_)
  unfold tk at k
  by_cases h1 : b = nI 32
  · rw [if_pos (Or.inl h1)] at k
    exact ⟨fun _ => k, fun q => absurd h1 q⟩
  refine ⟨fun q => absurd q h1, fun _ => ?_⟩
  by_cases h2 : b = nI 10
  · rw [if_pos (Or.inr h2)] at k
    exact ⟨fun q => absurd h2 q, fun _ => k⟩
  refine ⟨fun _ => ?_, fun q => absurd q h2⟩
  rw [if_neg (fun q => q.elim h1 h2)] at k
  have low : (if nI 48 ≤ b ∧ b ≤ nI 57 then 1 else if b = nI 59 then 2 else 5) = (if nI 48 ≤ b ∧ b ≤ nI 57 then 1 else if b = nI 59 then 2 else 5) → (¬ (nI 97 ≤ b ∧ b ≤ nI 122)) → ((b < nI 48 → ((¬ b = nI 59 → kI F X (.inl (some (.int (nI 5)))) H) ∧ (b = nI 59 → kI F X (.inl (some (.int (nI 2)))) H))) ∧ (¬ b < nI 48 → ((nI 57 < b → ((¬ b = nI 59 → kI F X (.inl (some (.int (nI 5)))) H) ∧ (b = nI 59 → kI F X (.inl (some (.int (nI 2)))) H))) ∧ (¬ nI 57 < b → kI F X (.inl (some (.int (nI 1)))) H)))) := by
    intro _ hn
    rw [if_neg hn] at k
    have tl : ¬ (nI 48 ≤ b ∧ b ≤ nI 57) → ((¬ b = nI 59 → kI F X (.inl (some (.int (nI 5)))) H) ∧ (b = nI 59 → kI F X (.inl (some (.int (nI 2)))) H)) := fun w => by
      rw [if_neg w] at k
      exact ⟨fun q => by rw [if_neg q] at k; exact k, fun q => by rw [if_pos q] at k; exact k⟩
    refine ⟨fun q => tl fun w => absurd w.1 (Int32.not_le.mpr q), fun q => ⟨fun q2 => tl fun w => absurd w.2 (Int32.not_le.mpr q2), fun q2 => ?_⟩⟩
    rw [if_pos ⟨Int32.not_lt.mp q, Int32.not_lt.mp q2⟩] at k
    exact k
  refine ⟨fun q => low rfl fun w => absurd w.1 (Int32.not_le.mpr q), fun q => ⟨fun q2 => low rfl fun w => absurd w.2 (Int32.not_le.mpr q2), fun q2 => ?_⟩⟩
  rw [if_pos ⟨Int32.not_lt.mp q, Int32.not_lt.mp q2⟩] at k
  exact k
theorem RF.set {I2 : Nat → Nat → Int32} {q t s q' : Nat} (h : RF I I2 x N q t s) : RF I (wr I2 (x + 57) 3 (nI q')) x N q' t s :=
  ⟨fun a ha => by rw [wrM1 ha]; exact h.1 a ha, by rw [wrM2 (by omega)]; exact h.2.1, wrH rfl rfl, by rw [wrM2 (by omega)]; exact h.2.2.2.1, by rw [wrM2 (by omega)]; exact h.2.2.2.2.1, by rw [wrM2 (by omega)]; exact h.2.2.2.2.2⟩
theorem RF.set6 {I2 : Nat → Nat → Int32} {q t s : Nat} {y : Int32} (h : RF I I2 x N q t s) : RF I (wr I2 (x + 57) 6 y) x N q t s :=
  ⟨fun a ha => by rw [wrM1 ha]; exact h.1 a ha, by rw [wrM2 (by omega)]; exact h.2.1, by rw [wrM2 (by omega)]; exact h.2.2.1, by rw [wrM2 (by omega)]; exact h.2.2.2.1, by rw [wrM2 (by omega)]; exact h.2.2.2.2.1, by rw [wrM2 (by omega)]; exact h.2.2.2.2.2⟩
--facts LK_ hK
theorem w164 {I2 : Nat → Nat → Int32} {q tt s : Nat} (hK : LK L x) (h : RF I I2 x N q tt s) (ht : tt ≠ 1) (ht5 : tt ≤ 5) (k : ∀ I3, RF I I3 x N q tt s → G (L, I3, J, t)) : Wp (cal (d + 1)) kc_65 [] (kV G X) (164, [some (.ref (x + 57))], [], (L, I2, J, t)) := by
  refine t65_164 ?_
  simp (disch := omega) only [vpT, nI_leI, nI_ltI, nI_eq, nleT, nleF, nltT, nltF, neqT, neqF, nI_add, pk_mul, subN, divN, nI_clamp, mI1, wrH, wrM1, wrM2, wrowH, wrowM, bI0, bI1, kIi, kVi, kRi, kLi, kIx, kVx, Option.some.injEq, exists_eq_left', true_and, and_true, true_implies, false_implies, implies_true, not_true_eq_false, not_false_eq_true, true_or, or_true, false_or, or_false, forall_eq, iteT, iteF, LK_ hK, h.2.2.2.1]
  exact k I2 h
theorem n164 {s : Nat} (hK : LK L x) (hB : ∀ j, j < N → I (x + 56) j = B j) (hN : N ≤ 500) (k : ∀ I3, RF I I3 x N (rN B N 1 s) 1 s → VC (I3 (x + 57) 6) (vl B s (rN B N 1 s - s)) → G (L, I3, J, t)) : ∀ f i I2, N - (s + i) = f → s + i ≤ N → RF I I2 x N (s + i) 1 s → rN B N 1 (s + i) = rN B N 1 s → VC (I2 (x + 57) 6) (vl B s i) → Wp (cal (d + 1)) kc_65 [] (kV G X) (164, [some (.ref (x + 57))], [], (L, I2, J, t)) := by
  intro f
  induction f with
  | zero =>
    intro i I2 hf hi h hr hv
    refine t65_164 ?_
    simp (disch := omega) only [vpT, nI_leI, nI_ltI, nI_eq, nleT, nleF, nltT, nltF, neqT, neqF, nI_add, pk_mul, subN, divN, nI_clamp, mI1, wrH, wrM1, wrM2, wrowH, wrowM, bI0, bI1, kIi, kVi, kRi, kLi, kIx, kVx, Option.some.injEq, exists_eq_left', true_and, and_true, true_implies, false_implies, implies_true, not_true_eq_false, not_false_eq_true, true_or, or_true, false_or, or_false, forall_eq, iteT, iteF, LK_ hK, h.2.2.2.1, h.2.1, h.2.2.1]
    rw [rN_stop (by omega)] at hr
    refine k I2 (by rw [← hr]; exact h) ?_
    rw [← hr, show s + i - s = i by omega]
    exact hv
  | succ f ih =>
    intro i I2 hf hi h hr hv
    have eB : I2 (x + 56) (s + i) = B (s + i) := by rw [h.1 _ (by omega)]; exact hB _ (by omega)
    refine t65_164 ?_
    simp (disch := omega) only [vpT, nI_leI, nI_ltI, nI_eq, nleT, nleF, nltT, nltF, neqT, neqF, nI_add, pk_mul, subN, divN, nI_clamp, mI1, wrH, wrM1, wrM2, wrowH, wrowM, bI0, bI1, kIi, kVi, kRi, kLi, kIx, kVx, Option.some.injEq, exists_eq_left', true_and, and_true, true_implies, false_implies, implies_true, not_true_eq_false, not_false_eq_true, true_or, or_true, false_or, or_false, forall_eq, iteT, iteF, LK_ hK, h.2.2.2.1, h.2.1, h.2.2.1, eB]
    refine sp_tok (t65_195 ?_)
    have ht := tk_le (b := B (s + i))
    by_cases q : tk (B (s + i)) = 1
    · have hb : nI 48 ≤ B (s + i) ∧ B (s + i) ≤ nI 57 := by
        unfold tk at q
        split at q
        · cases q
        · split at q
          · cases q
          · split at q
            · assumption
            · split at q <;> cases q
      obtain ⟨dd, hd, ed⟩ := i_le (by decide) (Int32.le_trans (show nI 0 ≤ nI 48 by decide) hb.1) hb.2
      have hd48 : 48 ≤ dd := by
        have := hb.1
        rw [ed] at this
        exact (nI_leI (by decide) (by omega)).mp this
      obtain ⟨c, hc, ec, c1, c2⟩ := hv
      have vs : vl B s (i + 1) = min 1000000 (10 * vl B s i + (dd - 48)) := by
        show min 1000000 (10 * vl B s i + ((B (s + i)).toNatClampNeg - 48)) = _
        rw [ed, nI_clamp (by omega)]
      have vle := vl_le (B := B) (s := s) (k := i)
      rw [q]
      by_cases q2 : c < 100000
      · have esub : c * 10 + dd - 48 = c * 10 + (dd - 48) := by omega
        simp (disch := omega) only [vpT, nI_leI, nI_ltI, nI_eq, nleT, nleF, nltT, nltF, neqT, neqF, nI_add, pk_mul, subN, divN, nI_clamp, mI1, wrH, wrM1, wrM2, wrowH, wrowM, bI0, bI1, kIi, kVi, kRi, kLi, kIx, kVx, Option.some.injEq, exists_eq_left', true_and, and_true, true_implies, false_implies, implies_true, not_true_eq_false, not_false_eq_true, true_or, or_true, false_or, or_false, forall_eq, iteT, iteF, LK_ hK, ec, h.2.2.1, h.2.2.2.1, eB, ed, esub]
        refine ih (i + 1) _ (by omega) (by omega) ?_ (by rw [← hr, rN_step (by omega) q]; rfl) ?_
        · exact (h.set6).set
        · rw [wrM2 (by omega)]
          refine ⟨c * 10 + (dd - 48), by omega, wrH rfl rfl, fun w => ?_, fun w => ?_⟩
          · have := c2 q2
            rw [vs] at w ⊢
            omega
          · have := c2 q2
            rw [vs]
            omega
      · simp (disch := omega) only [vpT, nI_leI, nI_ltI, nI_eq, nleT, nleF, nltT, nltF, neqT, neqF, nI_add, pk_mul, subN, divN, nI_clamp, mI1, wrH, wrM1, wrM2, wrowH, wrowM, bI0, bI1, kIi, kVi, kRi, kLi, kIx, kVx, Option.some.injEq, exists_eq_left', true_and, and_true, true_implies, false_implies, implies_true, not_true_eq_false, not_false_eq_true, true_or, or_true, false_or, or_false, forall_eq, iteT, iteF, LK_ hK, ec, h.2.2.1, h.2.2.2.1]
        refine ih (i + 1) _ (by omega) (by omega) ?_ (by rw [← hr, rN_step (by omega) q]; rfl) ?_
        · exact (h.set6).set
        · rw [wrM2 (by omega)]
          have hv2 : 100000 ≤ vl B s i := by
            apply Nat.le_of_not_lt
            intro w
            have := c1 w
            omega
          refine ⟨100000, by omega, wrH rfl rfl, fun w => ?_, fun w => by omega⟩
          rw [vs] at w
          omega
    · simp (disch := omega) only [vpT, nI_leI, nI_ltI, nI_eq, nleT, nleF, nltT, nltF, neqT, neqF, nI_add, pk_mul, subN, divN, nI_clamp, mI1, wrH, wrM1, wrM2, wrowH, wrowM, bI0, bI1, kIi, kVi, kRi, kLi, kIx, kVx, Option.some.injEq, exists_eq_left', true_and, and_true, true_implies, false_implies, implies_true, not_true_eq_false, not_false_eq_true, true_or, or_true, false_or, or_false, forall_eq, iteT, iteF, LK_ hK]
      rw [rN_stop (fun w => q w.2)] at hr
      refine k I2 (by rw [← hr]; exact h) ?_
      rw [← hr, show s + i - s = i by omega]
      exact hv
theorem w113 {s : Nat} (hK : LK L x) (hB : ∀ j, j < N → I (x + 56) j = B j) (hN : N ≤ 500) (k : ∀ I3, RF I I3 x N (rN B N 0 s) 0 s → G (L, I3, J, t)) : ∀ f i I2, N - (s + i) = f → s + i ≤ N → RF I I2 x N (s + i) 0 s → rN B N 0 (s + i) = rN B N 0 s → Wp (cal (d + 1)) kc_65 [] (kV G X) (113, [some (.ref (x + 57))], [], (L, I2, J, t)) := by
  intro f
  induction f with
  | zero =>
    intro i I2 hf hi h hr
    refine t65_113 ?_
    simp (disch := omega) only [vpT, nI_leI, nI_ltI, nI_eq, nleT, nleF, nltT, nltF, neqT, neqF, nI_add, pk_mul, subN, divN, nI_clamp, mI1, wrH, wrM1, wrM2, wrowH, wrowM, bI0, bI1, kIi, kVi, kRi, kLi, kIx, kVx, Option.some.injEq, exists_eq_left', true_and, and_true, true_implies, false_implies, implies_true, not_true_eq_false, not_false_eq_true, true_or, or_true, false_or, or_false, forall_eq, iteT, iteF, LK_ hK, h.2.2.2.1, h.2.1, h.2.2.1]
    rw [rN_stop (by omega)] at hr
    exact w164 hK h.set6 (by decide) (by decide) fun I3 h3 => k I3 (by rw [← hr]; exact h3)
  | succ f ih =>
    intro i I2 hf hi h hr
    have eB : I2 (x + 56) (s + i) = B (s + i) := by rw [h.1 _ (by omega)]; exact hB _ (by omega)
    refine t65_113 ?_
    simp (disch := omega) only [vpT, nI_leI, nI_ltI, nI_eq, nleT, nleF, nltT, nltF, neqT, neqF, nI_add, pk_mul, subN, divN, nI_clamp, mI1, wrH, wrM1, wrM2, wrowH, wrowM, bI0, bI1, kIi, kVi, kRi, kLi, kIx, kVx, Option.some.injEq, exists_eq_left', true_and, and_true, true_implies, false_implies, implies_true, not_true_eq_false, not_false_eq_true, true_or, or_true, false_or, or_false, forall_eq, iteT, iteF, LK_ hK, h.2.2.2.1, h.2.1, h.2.2.1, eB]
    refine sp_tok (t65_143 ?_)
    have ht := tk_le (b := B (s + i))
    by_cases q : tk (B (s + i)) = 0
    · rw [q]
      simp (disch := omega) only [vpT, nI_leI, nI_ltI, nI_eq, nleT, nleF, nltT, nltF, neqT, neqF, nI_add, pk_mul, subN, divN, nI_clamp, mI1, wrH, wrM1, wrM2, wrowH, wrowM, bI0, bI1, kIi, kVi, kRi, kLi, kIx, kVx, Option.some.injEq, exists_eq_left', true_and, and_true, true_implies, false_implies, implies_true, not_true_eq_false, not_false_eq_true, true_or, or_true, false_or, or_false, forall_eq, iteT, iteF, LK_ hK, h.2.2.1]
      exact ih (i + 1) _ (by omega) (by omega) h.set (by rw [← hr, rN_step (by omega) q]; rfl)
    · simp (disch := omega) only [vpT, nI_leI, nI_ltI, nI_eq, nleT, nleF, nltT, nltF, neqT, neqF, nI_add, pk_mul, subN, divN, nI_clamp, mI1, wrH, wrM1, wrM2, wrowH, wrowM, bI0, bI1, kIi, kVi, kRi, kLi, kIx, kVx, Option.some.injEq, exists_eq_left', true_and, and_true, true_implies, false_implies, implies_true, not_true_eq_false, not_false_eq_true, true_or, or_true, false_or, or_false, forall_eq, iteT, iteF, LK_ hK]
      rw [rN_stop (fun w => q w.2)] at hr
      exact w164 hK h.set6 (by decide) (by decide) fun I3 h3 => k I3 (by rw [← hr]; exact h3)
/-- behind the token's kind -/
theorem y113 {I2 : Nat → Nat → Int32} {p tt s : Nat} (hK : LK L x) (hB : ∀ j, j < N → I (x + 56) j = B j) (hN : N ≤ 500) (hs : s = rN B N 4 p) (hsN : s ≤ N) (ht : tt = if s < N then tk (B s) else 3) (h : RF I I2 x N (if tt = 2 ∨ tt = 5 then s + 1 else s) tt s) (h4 : s < N → tk (B s) ≠ 4) (k : ∀ I3, same I I3 (fun a => a = x + 57) → CR I3 x N (lex B N p) → G (L, I3, J, t)) : Wp (cal (d + 1)) kc_65 [] (kV G X) (113, [some (.ref (x + 57))], [], (L, I2, J, t)) := by
  have t5 : tt ≤ 5 := by
    rw [ht]
    split
    · exact tk_le
    · decide
  have fin : ∀ I3 q v, RF I I3 x N q tt s → (tt = 1 → VC (I3 (x + 57) 6) v) → lex B N p = (tt, s, q, v, 0, 0) → G (L, I3, J, t) := fun I3 q v h3 hv e => k I3 h3.1 (by rw [e]; exact ⟨h3.2.1, h3.2.2.1, h3.2.2.2.1, h3.2.2.2.2.1, hv, h3.2.2.2.2.2, fun w => absurd rfl w⟩)
  by_cases q : s < N
  · rw [if_pos q] at ht
    have el : lex B N p = (tk (B s), s, (if tk (B s) = 0 then rN B N 0 s else if tk (B s) = 1 then rN B N 1 s else s + 1), (if tk (B s) = 1 then vl B s (rN B N 1 s - s) else 0), 0, 0) := by
      unfold lex
      rw [← hs, if_pos q]
    rw [← ht] at el h4
    have n4 := h4 q
    have n3 : tt ≠ 3 := by rw [ht]; exact tk_3
    by_cases t0 : tt = 0
    · subst t0
      rw [if_neg (by omega)] at h
      refine w113 hK hB hN (fun I3 h3 => fin I3 _ _ h3 (fun w => absurd w (by decide)) el) _ 0 I2 rfl (by omega) h rfl
    by_cases t1 : tt = 1
    · subst t1
      rw [if_neg (by omega)] at h
      refine t65_113 ?_
      simp (disch := omega) only [vpT, nI_leI, nI_ltI, nI_eq, nleT, nleF, nltT, nltF, neqT, neqF, nI_add, pk_mul, subN, divN, nI_clamp, mI1, wrH, wrM1, wrM2, wrowH, wrowM, bI0, bI1, kIi, kVi, kRi, kLi, kIx, kVx, Option.some.injEq, exists_eq_left', true_and, and_true, true_implies, false_implies, implies_true, not_true_eq_false, not_false_eq_true, true_or, or_true, false_or, or_false, forall_eq, iteT, iteF, LK_ hK, h.2.2.2.1]
      refine n164 hK hB hN (fun I3 h3 hv => fin I3 _ _ h3 (fun _ => hv) el) _ 0 _ rfl (by omega) h.set6 rfl ⟨0, by decide, wrH rfl rfl, fun _ => rfl, fun _ => rfl⟩
    · rw [if_pos (by omega)] at h
      refine t65_113 ?_
      simp (disch := omega) only [vpT, nI_leI, nI_ltI, nI_eq, nleT, nleF, nltT, nltF, neqT, neqF, nI_add, pk_mul, subN, divN, nI_clamp, mI1, wrH, wrM1, wrM2, wrowH, wrowM, bI0, bI1, kIi, kVi, kRi, kLi, kIx, kVx, Option.some.injEq, exists_eq_left', true_and, and_true, true_implies, false_implies, implies_true, not_true_eq_false, not_false_eq_true, true_or, or_true, false_or, or_false, forall_eq, iteT, iteF, LK_ hK, h.2.2.2.1]
      refine w164 hK h.set6 t1 t5 fun I3 h3 => fin I3 _ 0 h3 (fun w => absurd w t1) ?_
      rw [el, if_neg t0, if_neg t1, if_neg t1]
  · rw [if_neg q] at ht
    subst ht
    rw [if_neg (by omega)] at h
    refine t65_113 ?_
    simp (disch := omega) only [vpT, nI_leI, nI_ltI, nI_eq, nleT, nleF, nltT, nltF, neqT, neqF, nI_add, pk_mul, subN, divN, nI_clamp, mI1, wrH, wrM1, wrM2, wrowH, wrowM, bI0, bI1, kIi, kVi, kRi, kLi, kIx, kVx, Option.some.injEq, exists_eq_left', true_and, and_true, true_implies, false_implies, implies_true, not_true_eq_false, not_false_eq_true, true_or, or_true, false_or, or_false, forall_eq, iteT, iteF, LK_ hK, h.2.2.2.1]
    refine w164 hK h.set6 (by decide) (by decide) fun I3 h3 => fin I3 _ 0 h3 (fun w => absurd w (by decide)) ?_
    unfold lex
    rw [← hs, if_neg q]
theorem sp_step0 {p : Nat} (hK : LK L x) (hB : ∀ j, j < N → I (x + 56) j = B j) (hN : N ≤ 500) (hp : p ≤ N) (c2 : I (x + 57) 2 = nI N) (c3 : I (x + 57) 3 = nI p) (c7 : I (x + 57) 7 = nI 0) (k : ∀ I2, same I I2 (fun a => a = x + 57) → CR I2 x N (lex B N p) → G (L, I2, J, t)) : cal (d + 2) 65 [.ref (x + 57)] (L, I, J, t) (kV G X) := by
  refine e65 (t65_0 ?_)
  simp (disch := omega) only [vpT, nI_leI, nI_ltI, nI_eq, nleT, nleF, nltT, nltF, neqT, neqF, nI_add, pk_mul, subN, divN, nI_clamp, mI1, wrH, wrM1, wrM2, wrowH, wrowM, bI0, bI1, kIi, kVi, kRi, kLi, kIx, kVx, Option.some.injEq, exists_eq_left', true_and, and_true, true_implies, false_implies, implies_true, not_true_eq_false, not_false_eq_true, true_or, or_true, false_or, or_false, forall_eq, iteT, iteF, LK_ hK, c7]
  have main : ∀ f q I2, N - q = f → q ≤ N → rN B N 4 q = rN B N 4 p → same I I2 (fun a => a = x + 57) → I2 (x + 57) 2 = nI N → I2 (x + 57) 3 = nI q → I2 (x + 57) 7 = nI 0 → Wp (cal (d + 1)) kc_65 [] (kV G X) (8, [some (.ref (x + 57))], [], (L, I2, J, t)) := by
    intro f
    induction f with
    | zero =>
      intro q I2 hf hq hr hs g2 g3 g7
      refine t65_8 ?_
      simp (disch := omega) only [vpT, nI_leI, nI_ltI, nI_eq, nleT, nleF, nltT, nltF, neqT, neqF, nI_add, pk_mul, subN, divN, nI_clamp, mI1, wrH, wrM1, wrM2, wrowH, wrowM, bI0, bI1, kIi, kVi, kRi, kLi, kIx, kVx, Option.some.injEq, exists_eq_left', true_and, and_true, true_implies, false_implies, implies_true, not_true_eq_false, not_false_eq_true, true_or, or_true, false_or, or_false, forall_eq, iteT, iteF, LK_ hK, g2, g3]
      rw [rN_stop (by omega)] at hr
      refine y113 (p := p) (tt := 3) (s := q) hK hB hN hr hq (by rw [if_neg (by omega)]) ?_ (fun w => by omega) k
      refine ⟨fun a ha => by rw [wrM1 ha, wrM1 ha]; exact hs a ha, by simp (disch := omega) only [vpT, nI_leI, nI_ltI, nI_eq, nleT, nleF, nltT, nltF, neqT, neqF, nI_add, pk_mul, subN, divN, nI_clamp, mI1, wrH, wrM1, wrM2, wrowH, wrowM, bI0, bI1, kIi, kVi, kRi, kLi, kIx, kVx, Option.some.injEq, exists_eq_left', true_and, and_true, true_implies, false_implies, implies_true, not_true_eq_false, not_false_eq_true, true_or, or_true, false_or, or_false, forall_eq, iteT, iteF, LK_ hK]; exact g2, by simp (disch := omega) only [vpT, nI_leI, nI_ltI, nI_eq, nleT, nleF, nltT, nltF, neqT, neqF, nI_add, pk_mul, subN, divN, nI_clamp, mI1, wrH, wrM1, wrM2, wrowH, wrowM, bI0, bI1, kIi, kVi, kRi, kLi, kIx, kVx, Option.some.injEq, exists_eq_left', true_and, and_true, true_implies, false_implies, implies_true, not_true_eq_false, not_false_eq_true, true_or, or_true, false_or, or_false, forall_eq, iteT, iteF, LK_ hK]; exact g3, by simp (disch := omega) only [vpT, nI_leI, nI_ltI, nI_eq, nleT, nleF, nltT, nltF, neqT, neqF, nI_add, pk_mul, subN, divN, nI_clamp, mI1, wrH, wrM1, wrM2, wrowH, wrowM, bI0, bI1, kIi, kVi, kRi, kLi, kIx, kVx, Option.some.injEq, exists_eq_left', true_and, and_true, true_implies, false_implies, implies_true, not_true_eq_false, not_false_eq_true, true_or, or_true, false_or, or_false, forall_eq, iteT, iteF, LK_ hK], by simp (disch := omega) only [vpT, nI_leI, nI_ltI, nI_eq, nleT, nleF, nltT, nltF, neqT, neqF, nI_add, pk_mul, subN, divN, nI_clamp, mI1, wrH, wrM1, wrM2, wrowH, wrowM, bI0, bI1, kIi, kVi, kRi, kLi, kIx, kVx, Option.some.injEq, exists_eq_left', true_and, and_true, true_implies, false_implies, implies_true, not_true_eq_false, not_false_eq_true, true_or, or_true, false_or, or_false, forall_eq, iteT, iteF, LK_ hK], by simp (disch := omega) only [vpT, nI_leI, nI_ltI, nI_eq, nleT, nleF, nltT, nltF, neqT, neqF, nI_add, pk_mul, subN, divN, nI_clamp, mI1, wrH, wrM1, wrM2, wrowH, wrowM, bI0, bI1, kIi, kVi, kRi, kLi, kIx, kVx, Option.some.injEq, exists_eq_left', true_and, and_true, true_implies, false_implies, implies_true, not_true_eq_false, not_false_eq_true, true_or, or_true, false_or, or_false, forall_eq, iteT, iteF, LK_ hK]; exact g7⟩
    | succ f ih =>
      intro q I2 hf hq hr hs g2 g3 g7
      have eB : I2 (x + 56) q = B q := by rw [hs _ (by omega)]; exact hB _ (by omega)
      have ht := tk_le (b := B q)
      have t3 := tk_3 (b := B q)
      refine t65_8 ?_
      simp (disch := omega) only [vpT, nI_leI, nI_ltI, nI_eq, nleT, nleF, nltT, nltF, neqT, neqF, nI_add, pk_mul, subN, divN, nI_clamp, mI1, wrH, wrM1, wrM2, wrowH, wrowM, bI0, bI1, kIi, kVi, kRi, kLi, kIx, kVx, Option.some.injEq, exists_eq_left', true_and, and_true, true_implies, false_implies, implies_true, not_true_eq_false, not_false_eq_true, true_or, or_true, false_or, or_false, forall_eq, iteT, iteF, LK_ hK, g2, g3, eB]
      refine sp_tok (t65_31 ?_)
      by_cases b4 : tk (B q) = 4
      · rw [b4]
        simp (disch := omega) only [vpT, nI_leI, nI_ltI, nI_eq, nleT, nleF, nltT, nltF, neqT, neqF, nI_add, pk_mul, subN, divN, nI_clamp, mI1, wrH, wrM1, wrM2, wrowH, wrowM, bI0, bI1, kIi, kVi, kRi, kLi, kIx, kVx, Option.some.injEq, exists_eq_left', true_and, and_true, true_implies, false_implies, implies_true, not_true_eq_false, not_false_eq_true, true_or, or_true, false_or, or_false, forall_eq, iteT, iteF, LK_ hK, g3]
        refine ih (q + 1) _ (by omega) (by omega) (by rw [← hr, rN_step (by omega) b4]) (fun a ha => by rw [wrM1 ha]; exact hs a ha) (by simp (disch := omega) only [vpT, nI_leI, nI_ltI, nI_eq, nleT, nleF, nltT, nltF, neqT, neqF, nI_add, pk_mul, subN, divN, nI_clamp, mI1, wrH, wrM1, wrM2, wrowH, wrowM, bI0, bI1, kIi, kVi, kRi, kLi, kIx, kVx, Option.some.injEq, exists_eq_left', true_and, and_true, true_implies, false_implies, implies_true, not_true_eq_false, not_false_eq_true, true_or, or_true, false_or, or_false, forall_eq, iteT, iteF, LK_ hK]; exact g2) (by simp (disch := omega) only [vpT, nI_leI, nI_ltI, nI_eq, nleT, nleF, nltT, nltF, neqT, neqF, nI_add, pk_mul, subN, divN, nI_clamp, mI1, wrH, wrM1, wrM2, wrowH, wrowM, bI0, bI1, kIi, kVi, kRi, kLi, kIx, kVx, Option.some.injEq, exists_eq_left', true_and, and_true, true_implies, false_implies, implies_true, not_true_eq_false, not_false_eq_true, true_or, or_true, false_or, or_false, forall_eq, iteT, iteF, LK_ hK]) (by simp (disch := omega) only [vpT, nI_leI, nI_ltI, nI_eq, nleT, nleF, nltT, nltF, neqT, neqF, nI_add, pk_mul, subN, divN, nI_clamp, mI1, wrH, wrM1, wrM2, wrowH, wrowM, bI0, bI1, kIi, kVi, kRi, kLi, kIx, kVx, Option.some.injEq, exists_eq_left', true_and, and_true, true_implies, false_implies, implies_true, not_true_eq_false, not_false_eq_true, true_or, or_true, false_or, or_false, forall_eq, iteT, iteF, LK_ hK]; exact g7)
      · simp (disch := omega) only [vpT, nI_leI, nI_ltI, nI_eq, nleT, nleF, nltT, nltF, neqT, neqF, nI_add, pk_mul, subN, divN, nI_clamp, mI1, wrH, wrM1, wrM2, wrowH, wrowM, bI0, bI1, kIi, kVi, kRi, kLi, kIx, kVx, Option.some.injEq, exists_eq_left', true_and, and_true, true_implies, false_implies, implies_true, not_true_eq_false, not_false_eq_true, true_or, or_true, false_or, or_false, forall_eq, iteT, iteF, LK_ hK, g2, g3, eB]
        rw [rN_stop (fun w => b4 w.2)] at hr
        refine sp_tok (t65_80 ?_)
        have go : ∀ I3, RF I I3 x N (if tk (B q) = 2 ∨ tk (B q) = 5 then q + 1 else q) (tk (B q)) q → Wp (cal (d + 1)) kc_65 [] (kV G X) (113, [some (.ref (x + 57))], [], (L, I3, J, t)) := fun I3 h3 => y113 (p := p) (tt := tk (B q)) (s := q) hK hB hN hr hq (by rw [if_pos (by omega)]) h3 (fun _ => b4) k
        by_cases t2 : tk (B q) = 2
        · rw [t2] at go ⊢
          rw [if_pos (by omega)] at go
          simp (disch := omega) only [vpT, nI_leI, nI_ltI, nI_eq, nleT, nleF, nltT, nltF, neqT, neqF, nI_add, pk_mul, subN, divN, nI_clamp, mI1, wrH, wrM1, wrM2, wrowH, wrowM, bI0, bI1, kIi, kVi, kRi, kLi, kIx, kVx, Option.some.injEq, exists_eq_left', true_and, and_true, true_implies, false_implies, implies_true, not_true_eq_false, not_false_eq_true, true_or, or_true, false_or, or_false, forall_eq, iteT, iteF, LK_ hK, g3]
          refine go _ ⟨fun a ha => by rw [wrM1 ha, wrM1 ha, wrM1 ha]; exact hs a ha, by simp (disch := omega) only [vpT, nI_leI, nI_ltI, nI_eq, nleT, nleF, nltT, nltF, neqT, neqF, nI_add, pk_mul, subN, divN, nI_clamp, mI1, wrH, wrM1, wrM2, wrowH, wrowM, bI0, bI1, kIi, kVi, kRi, kLi, kIx, kVx, Option.some.injEq, exists_eq_left', true_and, and_true, true_implies, false_implies, implies_true, not_true_eq_false, not_false_eq_true, true_or, or_true, false_or, or_false, forall_eq, iteT, iteF, LK_ hK]; exact g2, by simp (disch := omega) only [vpT, nI_leI, nI_ltI, nI_eq, nleT, nleF, nltT, nltF, neqT, neqF, nI_add, pk_mul, subN, divN, nI_clamp, mI1, wrH, wrM1, wrM2, wrowH, wrowM, bI0, bI1, kIi, kVi, kRi, kLi, kIx, kVx, Option.some.injEq, exists_eq_left', true_and, and_true, true_implies, false_implies, implies_true, not_true_eq_false, not_false_eq_true, true_or, or_true, false_or, or_false, forall_eq, iteT, iteF, LK_ hK], by simp (disch := omega) only [vpT, nI_leI, nI_ltI, nI_eq, nleT, nleF, nltT, nltF, neqT, neqF, nI_add, pk_mul, subN, divN, nI_clamp, mI1, wrH, wrM1, wrM2, wrowH, wrowM, bI0, bI1, kIi, kVi, kRi, kLi, kIx, kVx, Option.some.injEq, exists_eq_left', true_and, and_true, true_implies, false_implies, implies_true, not_true_eq_false, not_false_eq_true, true_or, or_true, false_or, or_false, forall_eq, iteT, iteF, LK_ hK], by simp (disch := omega) only [vpT, nI_leI, nI_ltI, nI_eq, nleT, nleF, nltT, nltF, neqT, neqF, nI_add, pk_mul, subN, divN, nI_clamp, mI1, wrH, wrM1, wrM2, wrowH, wrowM, bI0, bI1, kIi, kVi, kRi, kLi, kIx, kVx, Option.some.injEq, exists_eq_left', true_and, and_true, true_implies, false_implies, implies_true, not_true_eq_false, not_false_eq_true, true_or, or_true, false_or, or_false, forall_eq, iteT, iteF, LK_ hK], by simp (disch := omega) only [vpT, nI_leI, nI_ltI, nI_eq, nleT, nleF, nltT, nltF, neqT, neqF, nI_add, pk_mul, subN, divN, nI_clamp, mI1, wrH, wrM1, wrM2, wrowH, wrowM, bI0, bI1, kIi, kVi, kRi, kLi, kIx, kVx, Option.some.injEq, exists_eq_left', true_and, and_true, true_implies, false_implies, implies_true, not_true_eq_false, not_false_eq_true, true_or, or_true, false_or, or_false, forall_eq, iteT, iteF, LK_ hK]; exact g7⟩
        by_cases t5 : tk (B q) = 5
        · rw [t5] at go ⊢
          rw [if_pos (by omega)] at go
          simp (disch := omega) only [vpT, nI_leI, nI_ltI, nI_eq, nleT, nleF, nltT, nltF, neqT, neqF, nI_add, pk_mul, subN, divN, nI_clamp, mI1, wrH, wrM1, wrM2, wrowH, wrowM, bI0, bI1, kIi, kVi, kRi, kLi, kIx, kVx, Option.some.injEq, exists_eq_left', true_and, and_true, true_implies, false_implies, implies_true, not_true_eq_false, not_false_eq_true, true_or, or_true, false_or, or_false, forall_eq, iteT, iteF, LK_ hK, g3]
          refine go _ ⟨fun a ha => by rw [wrM1 ha, wrM1 ha, wrM1 ha]; exact hs a ha, by simp (disch := omega) only [vpT, nI_leI, nI_ltI, nI_eq, nleT, nleF, nltT, nltF, neqT, neqF, nI_add, pk_mul, subN, divN, nI_clamp, mI1, wrH, wrM1, wrM2, wrowH, wrowM, bI0, bI1, kIi, kVi, kRi, kLi, kIx, kVx, Option.some.injEq, exists_eq_left', true_and, and_true, true_implies, false_implies, implies_true, not_true_eq_false, not_false_eq_true, true_or, or_true, false_or, or_false, forall_eq, iteT, iteF, LK_ hK]; exact g2, by simp (disch := omega) only [vpT, nI_leI, nI_ltI, nI_eq, nleT, nleF, nltT, nltF, neqT, neqF, nI_add, pk_mul, subN, divN, nI_clamp, mI1, wrH, wrM1, wrM2, wrowH, wrowM, bI0, bI1, kIi, kVi, kRi, kLi, kIx, kVx, Option.some.injEq, exists_eq_left', true_and, and_true, true_implies, false_implies, implies_true, not_true_eq_false, not_false_eq_true, true_or, or_true, false_or, or_false, forall_eq, iteT, iteF, LK_ hK], by simp (disch := omega) only [vpT, nI_leI, nI_ltI, nI_eq, nleT, nleF, nltT, nltF, neqT, neqF, nI_add, pk_mul, subN, divN, nI_clamp, mI1, wrH, wrM1, wrM2, wrowH, wrowM, bI0, bI1, kIi, kVi, kRi, kLi, kIx, kVx, Option.some.injEq, exists_eq_left', true_and, and_true, true_implies, false_implies, implies_true, not_true_eq_false, not_false_eq_true, true_or, or_true, false_or, or_false, forall_eq, iteT, iteF, LK_ hK], by simp (disch := omega) only [vpT, nI_leI, nI_ltI, nI_eq, nleT, nleF, nltT, nltF, neqT, neqF, nI_add, pk_mul, subN, divN, nI_clamp, mI1, wrH, wrM1, wrM2, wrowH, wrowM, bI0, bI1, kIi, kVi, kRi, kLi, kIx, kVx, Option.some.injEq, exists_eq_left', true_and, and_true, true_implies, false_implies, implies_true, not_true_eq_false, not_false_eq_true, true_or, or_true, false_or, or_false, forall_eq, iteT, iteF, LK_ hK], by simp (disch := omega) only [vpT, nI_leI, nI_ltI, nI_eq, nleT, nleF, nltT, nltF, neqT, neqF, nI_add, pk_mul, subN, divN, nI_clamp, mI1, wrH, wrM1, wrM2, wrowH, wrowM, bI0, bI1, kIi, kVi, kRi, kLi, kIx, kVx, Option.some.injEq, exists_eq_left', true_and, and_true, true_implies, false_implies, implies_true, not_true_eq_false, not_false_eq_true, true_or, or_true, false_or, or_false, forall_eq, iteT, iteF, LK_ hK]; exact g7⟩
        · rw [if_neg (by omega)] at go
          simp (disch := omega) only [vpT, nI_leI, nI_ltI, nI_eq, nleT, nleF, nltT, nltF, neqT, neqF, nI_add, pk_mul, subN, divN, nI_clamp, mI1, wrH, wrM1, wrM2, wrowH, wrowM, bI0, bI1, kIi, kVi, kRi, kLi, kIx, kVx, Option.some.injEq, exists_eq_left', true_and, and_true, true_implies, false_implies, implies_true, not_true_eq_false, not_false_eq_true, true_or, or_true, false_or, or_false, forall_eq, iteT, iteF, LK_ hK]
          refine go _ ⟨fun a ha => by rw [wrM1 ha, wrM1 ha]; exact hs a ha, by simp (disch := omega) only [vpT, nI_leI, nI_ltI, nI_eq, nleT, nleF, nltT, nltF, neqT, neqF, nI_add, pk_mul, subN, divN, nI_clamp, mI1, wrH, wrM1, wrM2, wrowH, wrowM, bI0, bI1, kIi, kVi, kRi, kLi, kIx, kVx, Option.some.injEq, exists_eq_left', true_and, and_true, true_implies, false_implies, implies_true, not_true_eq_false, not_false_eq_true, true_or, or_true, false_or, or_false, forall_eq, iteT, iteF, LK_ hK]; exact g2, by simp (disch := omega) only [vpT, nI_leI, nI_ltI, nI_eq, nleT, nleF, nltT, nltF, neqT, neqF, nI_add, pk_mul, subN, divN, nI_clamp, mI1, wrH, wrM1, wrM2, wrowH, wrowM, bI0, bI1, kIi, kVi, kRi, kLi, kIx, kVx, Option.some.injEq, exists_eq_left', true_and, and_true, true_implies, false_implies, implies_true, not_true_eq_false, not_false_eq_true, true_or, or_true, false_or, or_false, forall_eq, iteT, iteF, LK_ hK]; exact g3, by simp (disch := omega) only [vpT, nI_leI, nI_ltI, nI_eq, nleT, nleF, nltT, nltF, neqT, neqF, nI_add, pk_mul, subN, divN, nI_clamp, mI1, wrH, wrM1, wrM2, wrowH, wrowM, bI0, bI1, kIi, kVi, kRi, kLi, kIx, kVx, Option.some.injEq, exists_eq_left', true_and, and_true, true_implies, false_implies, implies_true, not_true_eq_false, not_false_eq_true, true_or, or_true, false_or, or_false, forall_eq, iteT, iteF, LK_ hK], by simp (disch := omega) only [vpT, nI_leI, nI_ltI, nI_eq, nleT, nleF, nltT, nltF, neqT, neqF, nI_add, pk_mul, subN, divN, nI_clamp, mI1, wrH, wrM1, wrM2, wrowH, wrowM, bI0, bI1, kIi, kVi, kRi, kLi, kIx, kVx, Option.some.injEq, exists_eq_left', true_and, and_true, true_implies, false_implies, implies_true, not_true_eq_false, not_false_eq_true, true_or, or_true, false_or, or_false, forall_eq, iteT, iteF, LK_ hK], by simp (disch := omega) only [vpT, nI_leI, nI_ltI, nI_eq, nleT, nleF, nltT, nltF, neqT, neqF, nI_add, pk_mul, subN, divN, nI_clamp, mI1, wrH, wrM1, wrM2, wrowH, wrowM, bI0, bI1, kIi, kVi, kRi, kLi, kIx, kVx, Option.some.injEq, exists_eq_left', true_and, and_true, true_implies, false_implies, implies_true, not_true_eq_false, not_false_eq_true, true_or, or_true, false_or, or_false, forall_eq, iteT, iteF, LK_ hK]; exact g7⟩
  exact main _ p I rfl hp rfl same.rf c2 c3 c7
theorem sp_step (hK : LK L x) (hB : ∀ j, j < N → I (x + 56) j = B j) (hN : N ≤ 500) (hC : CR I x N P) (hP : PW B N P) (k : ∀ I2, same I I2 (fun a => a = x + 57) → CR I2 x N (pst B N P) → G (L, I2, J, t)) : cal (d + 2) 65 [.ref (x + 57)] (L, I, J, t) (kV G X) := by
  obtain ⟨c2, c3, c4, c5, c6, c7, c8⟩ := hC
  have h3 := hP.2.2.2.1
  by_cases f0 : P.2.2.2.2.1 = 0
  · rw [f0] at c7
    rw [show pst B N P = lex B N P.2.2.1 from if_pos f0] at k
    exact sp_step0 hK hB hN hP.2.1 c2 c3 c7 k
  · rw [show pst B N P = P from if_neg f0] at k
    refine e65 (t65_0 ?_)
    simp (disch := omega) only [vpT, nI_leI, nI_ltI, nI_eq, nleT, nleF, nltT, nltF, neqT, neqF, nI_add, pk_mul, subN, divN, nI_clamp, mI1, wrH, wrM1, wrM2, wrowH, wrowM, bI0, bI1, kIi, kVi, kRi, kLi, kIx, kVx, Option.some.injEq, exists_eq_left', true_and, and_true, true_implies, false_implies, implies_true, not_true_eq_false, not_false_eq_true, true_or, or_true, false_or, or_false, forall_eq, iteT, iteF, LK_ hK, c7]
    exact k I same.rf ⟨c2, c3, c4, c5, c6, c7, c8⟩
end STEP
