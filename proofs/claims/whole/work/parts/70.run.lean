/-! The class's days: run through. -/
def dsx (seed : Int32) : Nat → Int32
  | 0 => seed
  | i + 1 => drw (drw (drw (dsx seed i)))
def dso (seed : Int32) (i : Nat) : Nat := dvl (drw (dsx seed i)) % 8
def dR (seed : Int32) : Nat → Nat
  | 0 => 0
  | i + 1 => dR seed i + dvl (drw (drw (dsx seed i))) % 10
def dwe (seed : Int32) (i : Nat) : Nat := dvl (drw (drw (drw (dsx seed i)))) % 4 + 1
theorem dR_le {seed : Int32} : ∀ {i : Nat}, dR seed i ≤ 9 * i
  | 0 => Nat.le_refl _
  | i + 1 => by have := dR_le (seed := seed) (i := i); unfold dR; omega
abbrev dst : Type := BS × Nat × Nat × acc
/-- time goes on, if it must -/
def PIf (c : Prop) (x : Int32) (s s' : dst) : Prop := (c ∧ ∃ D, PTo s.1 s.2.1 s.2.2.1 x s.2.2.2 D s'.1 s'.2.2.2 ∧ s'.2.1 = s.2.1 - D ∧ s'.2.2.1 = mn20 (s.2.2.1 + D)) ∨ (¬ c ∧ s' = s)
def DStp (sh : Nat) (way : Int32) (so R we : Nat) (s s' : dst) : Prop := ∃ s1 s2 Sc, PIf (¬ nI R ≤ bF s.1 13) (nI R) s s1 ∧ PIf (s1.2.1 = 10) (slt s1.1 (ordN s1.1) 0) s1 s2 ∧ Add s2.1 Sc s2.2.1 (nI so) (nI R) (nI 1999) (nI we) ∧ Arr Sc s'.1 (s2.2.1 + 1) sh way ∧ s'.2.1 = s2.2.1 + 1 ∧ s'.2.2 = s2.2.2
def Trc (sh : Nat) (way seed : Int32) : Nat → dst → dst → Prop
  | 0, s, s' => s' = s
  | i + 1, s, s' => ∃ s1, Trc sh way seed i s s1 ∧ DStp sh way (dso seed i) (dR seed (i + 1)) (dwe seed i) s1 s'
def dfin (s : dst) : acc := (dCo s.1 (ordN s.1) s.2.2.2.1 s.2.1, dLa s.1 (ordN s.1) s.2.2.2.2.1 s.2.1, dWa s.1 (ordN s.1) s.2.2.2.2.2 s.2.1)
/-- the greatest slot is no less than any -/
theorem cst1_ge {S : BS} {o : Nat → Nat} : ∀ {n j : Nat}, j < n → slt S o j ≤ cst S o (nI 1) n
  | 0, j, h => absurd h (Nat.not_lt_zero _)
  | n + 1, j, h => by
    have e : cst S o (nI 1) (n + 1) = mx2 (slt S o n) (cst S o (nI 1) n) := rfl
    have := mx2_le.mp (Int32.le_refl (mx2 (slt S o n) (cst S o (nI 1) n)))
    rw [e]
    by_cases q : j = n
    · rw [q]; exact this.1
    · exact Int32.le_trans (cst1_ge (by omega)) this.2
theorem due_all {f : Nat → Int32} {x : Int32} {n : Nat} (h : ∀ j, j < n → f j ≤ x) : due f x n 0 = n := by
  have hs := due_spec (f := f) (x := x) (m := n) (k := 0)
  have hl := due_le (f := f) (x := x) (m := n) (k := 0)
  refine Nat.le_antisymm (by omega) (Nat.le_of_not_lt fun q => ?_)
  exact absurd (hs.2.1 (by omega)) (Int32.not_lt.mpr (h _ q))
theorem PIf.vb {c : Prop} {x : Int32} {s s' : dst} {sn T T' : Nat} (h : VB s.1 s.2.1 sn s.2.2.1 T) (h1 : T ≤ T') (h2 : T' ≤ 1000000) (x0 : 0 ≤ x.toInt) (xT : x.toInt ≤ T') (hp : PIf c x s s') : VB s'.1 s'.2.1 sn s'.2.2.1 T' := by
  rcases hp with ⟨-, D, q1, q2, q3⟩ | ⟨-, rfl⟩
  · rw [q2, q3]; exact (h.pto h1 h2 x0 xT q1).1
  · exact h.up h1 h2
theorem nI_bd {R B : Nat} (h : R ≤ B) (hB : B < 2 ^ 31) : 0 ≤ (nI R).toInt ∧ (nI R).toInt ≤ B := by
  rw [nIi (by omega)]
  omega
section RUN
variable {d : Nat} {L : hL} {I : Nat → Nat → Int32} {J : Nat → Nat → Int64} {t : tl} {q r n sn dn T sh : Nat} {x : Int32} {F : Int32 → hp → Prop} {G : hp → Prop} {X : Nat → hp → Prop}
--facts hQ, hR.1, LB_ hR.b, LT_ hR.t, LT_ hR.s
theorem sp_run {seed : Int32} {N way : Nat} (hQ : L.1 q = 3 ∧ L.2.2.1 q 0 = some r) (hR : LR L r) (hq : q < r ∨ r + 26 < q) (hV : VB (bd I (r + 2)) n sn dn T) (hsh : bF (bd I (r + 2)) 11 = nI sh) (hs3 : sh ≤ 3) (hN : N ≤ 40) (hw : way ≤ 3) (K : ∀ I2 S0 s, same I I2 (dz q r) → (bF S0 0 = nI 0 ∧ bF S0 14 = nI 0 ∧ bF S0 13 = nI 0) → (∀ j, j ≠ 0 → j ≠ 14 → j ≠ 13 → bF S0 j = bF (bd I (r + 2)) j) → S0.2 = (bd I (r + 2)).2 → Trc sh (nI way) seed N (S0, 0, 0, nI 0, nI 0, nI 0) s → VB s.1 s.2.1 sn s.2.2.1 (1000 + 4000 * N) → (∃ S1, Pss (slt s.1 (ordN s.1)) s.2.1 s.2.2.1 s.2.1 s.1 S1) → (I2 q 2, I2 q 3, I2 q 4) = dfin s → G (L, I2, J, t)) : cal (d + 18) 131 [.ref q, .int seed, .int (nI N), .int (nI way)] (L, I, J, t) (kV G X) := by
  refine e131 (t131_0 ?_)
  simp (disch := omega) only [vpT, nI_leI, nI_ltI, nI_eq, nleT, nleF, nltT, nltF, neqT, neqF, nI_add, pk_mul, subN, divN, nI_clamp, mI1, wrH, wrM1, wrM2, wrowH, wrowM, bI0, bI1, kIi, kVi, kRi, kLi, kIx, kVx, Option.some.injEq, exists_eq_left', true_and, and_true, true_implies, false_implies, implies_true, not_true_eq_false, not_false_eq_true, true_or, or_true, false_or, or_false, forall_eq, iteT, iteF, hQ, hR.1, LB_ hR.b, LT_ hR.t, LT_ hR.s]
  refine sp_clearAway hR.b (t131_14 ?_)
  simp (disch := omega) only [vpT, nI_leI, nI_ltI, nI_eq, nleT, nleF, nltT, nltF, neqT, neqF, nI_add, pk_mul, subN, divN, nI_clamp, mI1, wrH, wrM1, wrM2, wrowH, wrowM, bI0, bI1, kIi, kVi, kRi, kLi, kIx, kVx, Option.some.injEq, exists_eq_left', true_and, and_true, true_implies, false_implies, implies_true, not_true_eq_false, not_false_eq_true, true_or, or_true, false_or, or_false, forall_eq, iteT, iteF, hQ, hR.1, LB_ hR.b, LT_ hR.t, LT_ hR.s]
  generalize hI1 : wr (wr (wr (wr (wr (wr (wr I (r + 2) 0 (nI 0)) (r + 2) 14 (nI 0)) (r + 2) 13 (nI 0)) q 1 seed) q 2 (nI 0)) q 3 (nI 0)) q 4 (nI 0) = I1
  have a1 : ∀ a, a ≠ q → a ≠ r + 2 → I1 a = I a := fun a h1 h2 => by rw [← hI1]; simp (disch := omega) only [vpT, nI_leI, nI_ltI, nI_eq, nleT, nleF, nltT, nltF, neqT, neqF, nI_add, pk_mul, subN, divN, nI_clamp, mI1, wrH, wrM1, wrM2, wrowH, wrowM, bI0, bI1, kIi, kVi, kRi, kLi, kIx, kVx, Option.some.injEq, exists_eq_left', true_and, and_true, true_implies, false_implies, implies_true, not_true_eq_false, not_false_eq_true, true_or, or_true, false_or, or_false, forall_eq, iteT, iteF, hQ, hR.1, LB_ hR.b, LT_ hR.t, LT_ hR.s]
  have f1 : bF (bd I1 (r + 2)) 0 = nI 0 ∧ bF (bd I1 (r + 2)) 14 = nI 0 ∧ bF (bd I1 (r + 2)) 13 = nI 0 := by
    rw [← hI1]
    refine ⟨?_, ?_, ?_⟩
    · show wr _ _ _ _ (r + 2) 0 = _
      simp (disch := omega) only [vpT, nI_leI, nI_ltI, nI_eq, nleT, nleF, nltT, nltF, neqT, neqF, nI_add, pk_mul, subN, divN, nI_clamp, mI1, wrH, wrM1, wrM2, wrowH, wrowM, bI0, bI1, kIi, kVi, kRi, kLi, kIx, kVx, Option.some.injEq, exists_eq_left', true_and, and_true, true_implies, false_implies, implies_true, not_true_eq_false, not_false_eq_true, true_or, or_true, false_or, or_false, forall_eq, iteT, iteF, hQ, hR.1, LB_ hR.b, LT_ hR.t, LT_ hR.s]
    · show wr _ _ _ _ (r + 2) 14 = _
      simp (disch := omega) only [vpT, nI_leI, nI_ltI, nI_eq, nleT, nleF, nltT, nltF, neqT, neqF, nI_add, pk_mul, subN, divN, nI_clamp, mI1, wrH, wrM1, wrM2, wrowH, wrowM, bI0, bI1, kIi, kVi, kRi, kLi, kIx, kVx, Option.some.injEq, exists_eq_left', true_and, and_true, true_implies, false_implies, implies_true, not_true_eq_false, not_false_eq_true, true_or, or_true, false_or, or_false, forall_eq, iteT, iteF, hQ, hR.1, LB_ hR.b, LT_ hR.t, LT_ hR.s]
    · show wr _ _ _ _ (r + 2) 13 = _
      simp (disch := omega) only [vpT, nI_leI, nI_ltI, nI_eq, nleT, nleF, nltT, nltF, neqT, neqF, nI_add, pk_mul, subN, divN, nI_clamp, mI1, wrH, wrM1, wrM2, wrowH, wrowM, bI0, bI1, kIi, kVi, kRi, kLi, kIx, kVx, Option.some.injEq, exists_eq_left', true_and, and_true, true_implies, false_implies, implies_true, not_true_eq_false, not_false_eq_true, true_or, or_true, false_or, or_false, forall_eq, iteT, iteF, hQ, hR.1, LB_ hR.b, LT_ hR.t, LT_ hR.s]
  have f2 : ∀ j, j ≠ 0 → j ≠ 14 → j ≠ 13 → bF (bd I1 (r + 2)) j = bF (bd I (r + 2)) j := fun j h1 h2 h3 => by
    rw [← hI1]
    show wr _ _ _ _ (r + 2) j = I (r + 2) j
    simp (disch := omega) only [vpT, nI_leI, nI_ltI, nI_eq, nleT, nleF, nltT, nltF, neqT, neqF, nI_add, pk_mul, subN, divN, nI_clamp, mI1, wrH, wrM1, wrM2, wrowH, wrowM, bI0, bI1, kIi, kVi, kRi, kLi, kIx, kVx, Option.some.injEq, exists_eq_left', true_and, and_true, true_implies, false_implies, implies_true, not_true_eq_false, not_false_eq_true, true_or, or_true, false_or, or_false, forall_eq, iteT, iteF, hQ, hR.1, LB_ hR.b, LT_ hR.t, LT_ hR.s]
  have f3 : (bd I1 (r + 2)).2 = (bd I (r + 2)).2 := by
    show (I1 (r + 2 + 1), I1 (r + 2 + 2), I1 (r + 2 + 3), I1 (r + 2 + 4), I1 (r + 2 + 5), I1 (r + 2 + 6), I1 (r + 2 + 7), I1 (r + 2 + 8), I1 (r + 2 + 9), I1 (r + 2 + 10), I1 (r + 2 + 11), I1 (r + 2 + 12)) = (I (r + 2 + 1), I (r + 2 + 2), I (r + 2 + 3), I (r + 2 + 4), I (r + 2 + 5), I (r + 2 + 6), I (r + 2 + 7), I (r + 2 + 8), I (r + 2 + 9), I (r + 2 + 10), I (r + 2 + 11), I (r + 2 + 12))
    rw [a1 _ (by omega) (by omega), a1 _ (by omega) (by omega), a1 _ (by omega) (by omega), a1 _ (by omega) (by omega), a1 _ (by omega) (by omega), a1 _ (by omega) (by omega), a1 _ (by omega) (by omega), a1 _ (by omega) (by omega), a1 _ (by omega) (by omega), a1 _ (by omega) (by omega), a1 _ (by omega) (by omega), a1 _ (by omega) (by omega)]
  have g1 : I1 q 1 = seed ∧ I1 q 2 = nI 0 ∧ I1 q 3 = nI 0 ∧ I1 q 4 = nI 0 := by
    rw [← hI1]
    refine ⟨?_, ?_, ?_, ?_⟩
    · simp (disch := omega) only [vpT, nI_leI, nI_ltI, nI_eq, nleT, nleF, nltT, nltF, neqT, neqF, nI_add, pk_mul, subN, divN, nI_clamp, mI1, wrH, wrM1, wrM2, wrowH, wrowM, bI0, bI1, kIi, kVi, kRi, kLi, kIx, kVx, Option.some.injEq, exists_eq_left', true_and, and_true, true_implies, false_implies, implies_true, not_true_eq_false, not_false_eq_true, true_or, or_true, false_or, or_false, forall_eq, iteT, iteF, hQ, hR.1, LB_ hR.b, LT_ hR.t, LT_ hR.s]
    · simp (disch := omega) only [vpT, nI_leI, nI_ltI, nI_eq, nleT, nleF, nltT, nltF, neqT, neqF, nI_add, pk_mul, subN, divN, nI_clamp, mI1, wrH, wrM1, wrM2, wrowH, wrowM, bI0, bI1, kIi, kVi, kRi, kLi, kIx, kVx, Option.some.injEq, exists_eq_left', true_and, and_true, true_implies, false_implies, implies_true, not_true_eq_false, not_false_eq_true, true_or, or_true, false_or, or_false, forall_eq, iteT, iteF, hQ, hR.1, LB_ hR.b, LT_ hR.t, LT_ hR.s]
    · simp (disch := omega) only [vpT, nI_leI, nI_ltI, nI_eq, nleT, nleF, nltT, nltF, neqT, neqF, nI_add, pk_mul, subN, divN, nI_clamp, mI1, wrH, wrM1, wrM2, wrowH, wrowM, bI0, bI1, kIi, kVi, kRi, kLi, kIx, kVx, Option.some.injEq, exists_eq_left', true_and, and_true, true_implies, false_implies, implies_true, not_true_eq_false, not_false_eq_true, true_or, or_true, false_or, or_false, forall_eq, iteT, iteF, hQ, hR.1, LB_ hR.b, LT_ hR.t, LT_ hR.s]
    · simp (disch := omega) only [vpT, nI_leI, nI_ltI, nI_eq, nleT, nleF, nltT, nltF, neqT, neqF, nI_add, pk_mul, subN, divN, nI_clamp, mI1, wrH, wrM1, wrM2, wrowH, wrowM, bI0, bI1, kIi, kVi, kRi, kLi, kIx, kVx, Option.some.injEq, exists_eq_left', true_and, and_true, true_implies, false_implies, implies_true, not_true_eq_false, not_false_eq_true, true_or, or_true, false_or, or_false, forall_eq, iteT, iteF, hQ, hR.1, LB_ hR.b, LT_ hR.t, LT_ hR.s]
  have comp : ∀ k, (bd I1 (r + 2)).2 = (bd I (r + 2)).2 → bGa (bd I1 (r + 2)) k = bGa (bd I (r + 2)) k ∧ bST (bd I1 (r + 2)) k = bST (bd I (r + 2)) k := fun k e => by
    constructor
    · show (bd I1 (r + 2)).2.2.2.2.2.2.2.1 k = (bd I (r + 2)).2.2.2.2.2.2.2.1 k
      rw [e]
    · show (bd I1 (r + 2)).2.2.2.2.2.2.2.2.2.1 k = (bd I (r + 2)).2.2.2.2.2.2.2.2.2.1 k
      rw [e]
  have hV1 : VB (bd I1 (r + 2)) 0 sn 0 1000 := by
    obtain ⟨⟨b1, b2, b3, b4, b5, b6⟩, hP, ⟨v0, v1, v2, v3, v4, v5⟩, hu, shx, hs1, hs2⟩ := hV
    refine ⟨⟨⟨f1.1, by omega⟩, by rw [f2 8 (by decide) (by decide) (by decide)]; exact b2, ⟨f1.2.1, by omega⟩, fun k hk => by omega, fun k hk => by omega, fun k hk => by omega⟩, fun i j hi => by omega, ⟨by omega, fun k hk => by omega, fun k hk => by rw [(comp k f3).1]; exact v2 k hk, fun k hk => by rw [(comp k f3).2]; exact v3 k hk, by rw [f1.2.2]; decide, fun k hk => by omega⟩, fun k hk => by omega, shx, hs1, by rw [f2 11 (by decide) (by decide) (by decide)]; exact hs2⟩
  have hs1 : same I I1 (dz q r) := fun a ha => a1 a (fun w => ha (Or.inl w)) (fun w => ha (Or.inr (by omega)))
  refine lg (n := N) (fun i l h => ∃ I2 s l7 l8, l = [some (.ref q), some (.int seed), some (.int (nI N)), some (.int (nI way)), some (.ref (r + 2)), some (.int (nI (dR seed i))), some (.int (nI i)), l7, l8] ∧ h = (L, I2, J, t) ∧ same I I2 (dz q r) ∧ Trc sh (nI way) seed i (bd I1 (r + 2), 0, 0, nI 0, nI 0, nI 0) s ∧ bd I2 (r + 2) = s.1 ∧ VB s.1 s.2.1 sn s.2.2.1 (1000 + 4000 * i) ∧ bF s.1 11 = nI sh ∧ (I2 q 2, I2 q 3, I2 q 4) = s.2.2.2 ∧ I2 q 1 = dsx seed i) ?_ ?_ (Nat.zero_le _) _ _ ⟨I1, (bd I1 (r + 2), 0, 0, nI 0, nI 0, nI 0), _, _, rfl, rfl, hs1, rfl, rfl, hV1, by rw [f2 11 (by decide) (by decide) (by decide)]; exact hsh, by rw [g1.2.1, g1.2.2.1, g1.2.2.2], g1.1⟩
  · rintro i hi ih _ _ ⟨I2, ⟨S, n2, d2, a2⟩, l7, l8, rfl, rfl, hs, htr, hb, hV2, hsh2, hac, hdx⟩
    dsimp only at hb hV2 hsh2 hac
    have hRl := dR_le (seed := seed) (i := i + 1)
    have hRl0 := dR_le (seed := seed) (i := i)
    refine t131_40 ?_
    simp (disch := omega) only [vpT, nI_leI, nI_ltI, nI_eq, nleT, nleF, nltT, nltF, neqT, neqF, nI_add, pk_mul, subN, divN, nI_clamp, mI1, wrH, wrM1, wrM2, wrowH, wrowM, bI0, bI1, kIi, kVi, kRi, kLi, kIx, kVx, Option.some.injEq, exists_eq_left', true_and, and_true, true_implies, false_implies, implies_true, not_true_eq_false, not_false_eq_true, true_or, or_true, false_or, or_false, forall_eq, iteT, iteF, hQ, hR.1, LB_ hR.b, LT_ hR.t, LT_ hR.s]
    refine sp_draw (k := 8) hQ (by decide) (by decide) (t131_52 ?_)
    simp (disch := omega) only [vpT, nI_leI, nI_ltI, nI_eq, nleT, nleF, nltT, nltF, neqT, neqF, nI_add, pk_mul, subN, divN, nI_clamp, mI1, wrH, wrM1, wrM2, wrowH, wrowM, bI0, bI1, kIi, kVi, kRi, kLi, kIx, kVx, Option.some.injEq, exists_eq_left', true_and, and_true, true_implies, false_implies, implies_true, not_true_eq_false, not_false_eq_true, true_or, or_true, false_or, or_false, forall_eq, iteT, iteF, hQ, hR.1, LB_ hR.b, LT_ hR.t, LT_ hR.s]
    refine sp_draw (k := 10) hQ (by decide) (by decide) (t131_62 ?_)
    simp (disch := omega) only [vpT, nI_leI, nI_ltI, nI_eq, nleT, nleF, nltT, nltF, neqT, neqF, nI_add, pk_mul, subN, divN, nI_clamp, mI1, wrH, wrM1, wrM2, wrowH, wrowM, bI0, bI1, kIi, kVi, kRi, kLi, kIx, kVx, Option.some.injEq, exists_eq_left', true_and, and_true, true_implies, false_implies, implies_true, not_true_eq_false, not_false_eq_true, true_or, or_true, false_or, or_false, forall_eq, iteT, iteF, hQ, hR.1, LB_ hR.b, LT_ hR.t, LT_ hR.s]
    refine sp_draw (k := 4) hQ (by decide) (by decide) (t131_70 ?_)
    simp (disch := omega) only [vpT, nI_leI, nI_ltI, nI_eq, nleT, nleF, nltT, nltF, neqT, neqF, nI_add, pk_mul, subN, divN, nI_clamp, mI1, wrH, wrM1, wrM2, wrowH, wrowM, bI0, bI1, kIi, kVi, kRi, kLi, kIx, kVx, Option.some.injEq, exists_eq_left', true_and, and_true, true_implies, false_implies, implies_true, not_true_eq_false, not_false_eq_true, true_or, or_true, false_or, or_false, forall_eq, iteT, iteF, hQ, hR.1, LB_ hR.b, LT_ hR.t, LT_ hR.s, hdx]
    generalize hI3 : wr (wr (wr I2 q 1 (drw (dsx seed i))) q 1 (drw (drw (dsx seed i)))) q 1 (drw (drw (drw (dsx seed i)))) = I3
    have b3 : ∀ a, a ≠ q → I3 a = I2 a := fun a ha => by rw [← hI3]; simp (disch := omega) only [vpT, nI_leI, nI_ltI, nI_eq, nleT, nleF, nltT, nltF, neqT, neqF, nI_add, pk_mul, subN, divN, nI_clamp, mI1, wrH, wrM1, wrM2, wrowH, wrowM, bI0, bI1, kIi, kVi, kRi, kLi, kIx, kVx, Option.some.injEq, exists_eq_left', true_and, and_true, true_implies, false_implies, implies_true, not_true_eq_false, not_false_eq_true, true_or, or_true, false_or, or_false, forall_eq, iteT, iteF, hQ, hR.1, LB_ hR.b, LT_ hR.t, LT_ hR.s]
    have hbd3 : bd I3 (r + 2) = S := (bd_same fun a h1 h2 => b3 a (by omega)).trans hb
    have hq3 : I3 q 1 = dsx seed (i + 1) ∧ (I3 q 2, I3 q 3, I3 q 4) = a2 := by
      rw [← hac, ← hI3]
      constructor
      · simp (disch := omega) only [vpT, nI_leI, nI_ltI, nI_eq, nleT, nleF, nltT, nltF, neqT, neqF, nI_add, pk_mul, subN, divN, nI_clamp, mI1, wrH, wrM1, wrM2, wrowH, wrowM, bI0, bI1, kIi, kVi, kRi, kLi, kIx, kVx, Option.some.injEq, exists_eq_left', true_and, and_true, true_implies, false_implies, implies_true, not_true_eq_false, not_false_eq_true, true_or, or_true, false_or, or_false, forall_eq, iteT, iteF, hQ, hR.1, LB_ hR.b, LT_ hR.t, LT_ hR.s]
        rfl
      · simp (disch := omega) only [vpT, nI_leI, nI_ltI, nI_eq, nleT, nleF, nltT, nltF, neqT, neqF, nI_add, pk_mul, subN, divN, nI_clamp, mI1, wrH, wrM1, wrM2, wrowH, wrowM, bI0, bI1, kIi, kVi, kRi, kLi, kIx, kVx, Option.some.injEq, exists_eq_left', true_and, and_true, true_implies, false_implies, implies_true, not_true_eq_false, not_false_eq_true, true_or, or_true, false_or, or_false, forall_eq, iteT, iteF, hQ, hR.1, LB_ hR.b, LT_ hR.t, LT_ hR.s]
    have hso : dvl (drw (dsx seed i)) % 8 = dso seed i := rfl
    have hRe : dR seed i + dvl (drw (drw (dsx seed i))) % 10 = dR seed (i + 1) := rfl
    have hwe : dvl (drw (drw (drw (dsx seed i)))) % 4 + 1 = dwe seed i := rfl
    have e13 : I2 (r + 2) 13 = bF S 13 := by rw [← hb]; rfl
    simp only [hso, hRe, hwe, e13]
    -- behind both goings on
    have last : ∀ I5 (s2 : dst), same I I5 (dz q r) → bd I5 (r + 2) = s2.1 → VB s2.1 s2.2.1 sn s2.2.2.1 (1000 + 4000 * i + 4000) → s2.2.1 < 10 → bF s2.1 11 = nI sh → (I5 q 2, I5 q 3, I5 q 4) = s2.2.2.2 → I5 q 1 = dsx seed (i + 1) → (∀ s', (∃ Sc, Add s2.1 Sc s2.2.1 (nI (dso seed i)) (nI (dR seed (i + 1))) (nI 1999) (nI (dwe seed i)) ∧ Arr Sc s'.1 (s2.2.1 + 1) sh (nI way) ∧ s'.2.1 = s2.2.1 + 1 ∧ s'.2.2 = s2.2.2) → DStp sh (nI way) (dso seed i) (dR seed (i + 1)) (dwe seed i) (S, n2, d2, a2) s') → Wp (cal (d + 17)) kc_131 [] (kV G X) (116, [some (.ref q), some (.int seed), some (.int (nI N)), some (.int (nI way)), some (.ref (r + 2)), some (.int (nI (dR seed (i + 1)))), some (.int (nI i)), some (.int (nI (dso seed i))), some (.int (nI (dwe seed i)))], [], (L, I5, J, t)) := by
      rintro I5 ⟨S5, n5, d5, a5⟩ hs5 hb5 hV5 hn5 hsh5 hac5 hdx5 hst
      dsimp only at hb5 hV5 hn5 hsh5 hac5 hst
      have i0 : I5 (r + 2) 0 = nI n5 := by
        have := hV5.1.1.1
        rw [← hb5] at this
        exact this
      refine t131_116 ?_
      simp (disch := omega) only [vpT, nI_leI, nI_ltI, nI_eq, nleT, nleF, nltT, nltF, neqT, neqF, nI_add, pk_mul, subN, divN, nI_clamp, mI1, wrH, wrM1, wrM2, wrowH, wrowM, bI0, bI1, kIi, kVi, kRi, kLi, kIx, kVx, Option.some.injEq, exists_eq_left', true_and, and_true, true_implies, false_implies, implies_true, not_true_eq_false, not_false_eq_true, true_or, or_true, false_or, or_false, forall_eq, iteT, iteF, hQ, hR.1, LB_ hR.b, LT_ hR.t, LT_ hR.s]
      refine sp_addCraft (n := n5) hR.b i0 hn5 fun I6 hs6 hA6 => t131_130 ?_
      rw [hb5] at hA6
      have hV6 : VB (bd I6 (r + 2)) (n5 + 1) sn d5 (1000 + 4000 * i + 4000) := hV5.add hn5 (Nat.mod_lt _ (by decide)) (by omega) (by unfold dwe; omega) hA6
      have hsh6 : bF (bd I6 (r + 2)) 11 = nI sh := by rw [hA6.1.2 11 (by decide)]; exact hsh5
      have hlast : ordN (bd I6 (r + 2)) (n5 + 1 - 1) = n5 + 1 - 1 := by
        show ordN (bd I6 (r + 2)) n5 = n5
        unfold ordN
        rw [hA6.2.1.2.2.2.2.2, nI_clamp (by omega)]
      simp (disch := omega) only [vpT, nI_leI, nI_ltI, nI_eq, nleT, nleF, nltT, nltF, neqT, neqF, nI_add, pk_mul, subN, divN, nI_clamp, mI1, wrH, wrM1, wrM2, wrowH, wrowM, bI0, bI1, kIi, kVi, kRi, kLi, kIx, kVx, Option.some.injEq, exists_eq_left', true_and, and_true, true_implies, false_implies, implies_true, not_true_eq_false, not_false_eq_true, true_or, or_true, false_or, or_false, forall_eq, iteT, iteF, hQ, hR.1, LB_ hR.b, LT_ hR.t, LT_ hR.s]
      refine sp_arrange (n := n5 + 1) (sn := sn) (dn := d5) (sh := sh) (way := way) hQ hR hq hV6 (by omega) hlast hsh6 hs3 hw fun I7 hs7 hq7 hA7 hV7 => t131_135 ?_
      simp (disch := omega) only [vpT, nI_leI, nI_ltI, nI_eq, nleT, nleF, nltT, nltF, neqT, neqF, nI_add, pk_mul, subN, divN, nI_clamp, mI1, wrH, wrM1, wrM2, wrowH, wrowM, bI0, bI1, kIi, kVi, kRi, kLi, kIx, kVx, Option.some.injEq, exists_eq_left', true_and, and_true, true_implies, false_implies, implies_true, not_true_eq_false, not_false_eq_true, true_or, or_true, false_or, or_false, forall_eq, iteT, iteF, hQ, hR.1, LB_ hR.b, LT_ hR.t, LT_ hR.s]
      have e6q : I6 q = I5 q := hs6 q (by omega)
      refine ih _ _ ⟨I7, (bd I7 (r + 2), n5 + 1, d5, a5), _, _, rfl, rfl, ?_, ⟨_, htr, hst _ ⟨_, hA6, hA7, rfl, rfl⟩⟩, rfl, ?_, ?_, ?_, ?_⟩
      · exact (hs5.tr (hs6.up fun a h => by omega)).tr hs7
      · rw [show 1000 + 4000 * (i + 1) = 1000 + 4000 * i + 4000 by omega]; exact hV7
      · obtain ⟨o7, h7, -⟩ := hA7
        show bF (bd I7 (r + 2)) 11 = nI sh
        rw [h7.2.1]
        exact hsh6
      · rw [hq7, e6q]; exact hac5
      · rw [hq7, e6q]; exact hdx5
    -- behind the first one
    have second : ∀ I4 (s1 : dst), same I I4 (dz q r) → bd I4 (r + 2) = s1.1 → VB s1.1 s1.2.1 sn s1.2.2.1 (1000 + 4000 * i) → bF s1.1 11 = nI sh → (I4 q 2, I4 q 3, I4 q 4) = s1.2.2.2 → I4 q 1 = dsx seed (i + 1) → PIf (¬ nI (dR seed (i + 1)) ≤ bF S 13) (nI (dR seed (i + 1))) (S, n2, d2, a2) s1 → Wp (cal (d + 17)) kc_131 [] (kV G X) (90, [some (.ref q), some (.int seed), some (.int (nI N)), some (.int (nI way)), some (.ref (r + 2)), some (.int (nI (dR seed (i + 1)))), some (.int (nI i)), some (.int (nI (dso seed i))), some (.int (nI (dwe seed i)))], [], (L, I4, J, t)) := by
      rintro I4 ⟨S4, n4, d4, a4⟩ hs4 hb4 hV4 hsh4 hac4 hdx4 hp1
      dsimp only at hb4 hV4 hsh4 hac4
      have hn4 := hV4.1.1.2
      have i0 : I4 (r + 2) 0 = nI n4 := by
        have := hV4.1.1.1
        rw [← hb4] at this
        exact this
      refine t131_90 ?_
      simp (disch := omega) only [vpT, nI_leI, nI_ltI, nI_eq, nleT, nleF, nltT, nltF, neqT, neqF, nI_add, pk_mul, subN, divN, nI_clamp, mI1, wrH, wrM1, wrM2, wrowH, wrowM, bI0, bI1, kIi, kVi, kRi, kLi, kIx, kVx, Option.some.injEq, exists_eq_left', true_and, and_true, true_implies, false_implies, implies_true, not_true_eq_false, not_false_eq_true, true_or, or_true, false_or, or_false, forall_eq, iteT, iteF, hQ, hR.1, LB_ hR.b, LT_ hR.t, LT_ hR.s]
      refine sp_isFull (n := n4) hR.b i0 hn4 (t131_95 ?_)
      simp (disch := omega) only [vpT, nI_leI, nI_ltI, nI_eq, nleT, nleF, nltT, nltF, neqT, neqF, nI_add, pk_mul, subN, divN, nI_clamp, mI1, wrH, wrM1, wrM2, wrowH, wrowM, bI0, bI1, kIi, kVi, kRi, kLi, kIx, kVx, Option.some.injEq, exists_eq_left', true_and, and_true, true_implies, false_implies, implies_true, not_true_eq_false, not_false_eq_true, true_or, or_true, false_or, or_false, forall_eq, iteT, iteF, hQ, hR.1, LB_ hR.b, LT_ hR.t, LT_ hR.s]
      refine ⟨fun h => ?_, fun h => ?_⟩
      · have h10 : ¬ n4 = 10 := of_decide_eq_false h
        exact last I4 (S4, n4, d4, a4) hs4 hb4 (hV4.up (by omega) (by omega)) (by show n4 < 10; omega) hsh4 hac4 hdx4 fun s' ⟨Sc, z1, z2, z3, z4⟩ => ⟨_, _, Sc, hp1, Or.inr ⟨h10, rfl⟩, z1, z2, z3, z4⟩
      · have h10 : n4 = 10 := of_decide_eq_true (btf h)
        have o0 := BI_or hV4.1 0 (by omega)
        have e6 : I4 (r + 2 + 6) 0 = nI (ordN S4 0) := by
          have := o0.1
          rw [← hb4] at this ⊢
          exact this
        simp (disch := omega) only [vpT, nI_leI, nI_ltI, nI_eq, nleT, nleF, nltT, nltF, neqT, neqF, nI_add, pk_mul, subN, divN, nI_clamp, mI1, wrH, wrM1, wrM2, wrowH, wrowM, bI0, bI1, kIi, kVi, kRi, kLi, kIx, kVx, Option.some.injEq, exists_eq_left', true_and, and_true, true_implies, false_implies, implies_true, not_true_eq_false, not_false_eq_true, true_or, or_true, false_or, or_false, forall_eq, iteT, iteF, hQ, hR.1, LB_ hR.b, LT_ hR.t, LT_ hR.s, e6]
        refine sp_slotOf (n := n4) (sn := sn) (dn := d4) (p := 0) hR (by rw [hb4]; exact hV4.1) (by rw [hb4]; exact hV4.2.1) (by omega) (by rw [hb4]) fun I5 hs5 hT5 => t131_113 ?_
        have hb5 : bd I5 (r + 2) = S4 := (hs5.bd (fun a h1 h2 => by omega)).trans hb4
        have hq5 : I5 q = I4 q := hs5 q (by omega)
        rw [hb4]
        simp (disch := omega) only [vpT, nI_leI, nI_ltI, nI_eq, nleT, nleF, nltT, nltF, neqT, neqF, nI_add, pk_mul, subN, divN, nI_clamp, mI1, wrH, wrM1, wrM2, wrowH, wrowM, bI0, bI1, kIi, kVi, kRi, kLi, kIx, kVx, Option.some.injEq, exists_eq_left', true_and, and_true, true_implies, false_implies, implies_true, not_true_eq_false, not_false_eq_true, true_or, or_true, false_or, or_false, forall_eq, iteT, iteF, hQ, hR.1, LB_ hR.b, LT_ hR.t, LT_ hR.s]
        have sl := slt_up hV4.1 hV4.2.2.1 (k := 0) (o := ordN S4) (by omega) (fun j hj => (BI_or hV4.1 j (by omega)).2)
        refine sp_passTo (n := n4) (sn := sn) (dn := d4) hQ hR hq (by rw [hb5]; exact hV4.1) (by rw [hb5]; exact hV4.2.1) fun I6 S6 D hs6 hf6 hp6 hb6 => ?_
        rw [hb5, hq5, hac4] at hp6
        have hV6 := hV4.pto (T' := 1000 + 4000 * i + 4000) (by omega) (by omega) sl.2.2 (by omega) hp6
        have hD1 : 0 < D := by
          have := hp6.1
          unfold due at this
          rw [h10] at this
          rw [← this]
          show 0 < (if slt S4 (ordN S4) 0 < slt S4 (ordN S4) 0 then 0 else due (slt S4 (ordN S4)) (slt S4 (ordN S4) 0) 9 1)
          rw [if_neg Int32.lt_irrefl]
          have := (due_spec (f := slt S4 (ordN S4)) (x := slt S4 (ordN S4) 0) (m := 9) (k := 1)).2.2
          omega
        have hsh6 : bF S6 11 = nI sh := by
          obtain ⟨S1, z1, z2⟩ := hp6.2.1
          have hd : ∀ D S', Pss (slt S4 (ordN S4)) n4 d4 D S4 S' → bF S' 11 = bF S4 11 := by
            intro D
            induction D with
            | zero => intro S' h; rw [show S' = S4 from h]
            | succ D ih =>
              intro S' h
              obtain ⟨Sa, Ta, w1, w2, w3⟩ := h
              rw [w3.1.2 11 (by decide), w2.1.2 11 (by decide)]
              exact ih Sa w1
          rw [z2]
          show bF S1 11 = nI sh
          rw [hd D S1 z1]
          exact hsh4
        refine last I6 (S6, n4 - D, mn20 (d4 + D), (I6 q 2, I6 q 3, I6 q 4)) ((hs4.tr (hs5.up fun a h => by omega)).tr hs6) hb6 hV6.1 (by show n4 - D < 10; omega) hsh6 rfl (by rw [hf6 1 (by omega), hq5]; exact hdx4) fun s' ⟨Sc, z1, z2, z3, z4⟩ => ⟨_, _, Sc, hp1, Or.inl ⟨h10, D, hp6, rfl, rfl⟩, z1, z2, z3, z4⟩
    refine ⟨fun h => ?_, fun h => ?_⟩
    · exact second I3 (S, n2, d2, a2) (fun a ha => by rw [b3 a (fun w => ha (Or.inl w))]; exact hs a ha) hbd3 hV2 hsh2 hq3.2 hq3.1 (Or.inr ⟨fun w => w h, rfl⟩)
    · refine sp_passTo (n := n2) (sn := sn) (dn := d2) hQ hR hq (by rw [hbd3]; exact hV2.1) (by rw [hbd3]; exact hV2.2.1) fun I4 S4 D hs4 hf4 hp4 hb4 => ?_
      rw [hbd3, hq3.2] at hp4
      have hRb := nI_bd (R := dR seed (i + 1)) (B := 1000 + 4000 * i) (Nat.le_trans hRl (by omega)) (by omega)
      have hV4 := hV2.pto (T' := 1000 + 4000 * i) (by omega) (by omega) hRb.1 hRb.2 hp4
      have hsh4 : bF S4 11 = nI sh := by
        obtain ⟨S1, z1, z2⟩ := hp4.2.1
        have hd : ∀ D S', Pss (slt S (ordN S)) n2 d2 D S S' → bF S' 11 = bF S 11 := by
          intro D
          induction D with
          | zero => intro S' h; rw [show S' = S from h]
          | succ D ih =>
            intro S' h
            obtain ⟨Sa, Ta, w1, w2, w3⟩ := h
            rw [w3.1.2 11 (by decide), w2.1.2 11 (by decide)]
            exact ih Sa w1
        rw [z2]
        show bF S1 11 = nI sh
        rw [hd D S1 z1]
        exact hsh2
      exact second I4 (S4, n2 - D, mn20 (d2 + D), (I4 q 2, I4 q 3, I4 q 4)) (fun a ha => by rw [hs4 a ha, b3 a (fun w => ha (Or.inl w))]; exact hs a ha) hb4 hV4.1 hsh4 rfl (by rw [hf4 1 (by omega)]; exact hq3.1) (Or.inl ⟨h, D, hp4, rfl, rfl⟩)
  · rintro _ _ ⟨I2, ⟨S, n2, d2, a2⟩, l7, l8, rfl, rfl, hs, htr, hb, hV2, hsh2, hac, hdx⟩
    dsimp only at hb hV2 hac
    refine t131_40 ?_
    simp (disch := omega) only [vpT, nI_leI, nI_ltI, nI_eq, nleT, nleF, nltT, nltF, neqT, neqF, nI_add, pk_mul, subN, divN, nI_clamp, mI1, wrH, wrM1, wrM2, wrowH, wrowM, bI0, bI1, kIi, kVi, kRi, kLi, kIx, kVx, Option.some.injEq, exists_eq_left', true_and, and_true, true_implies, false_implies, implies_true, not_true_eq_false, not_false_eq_true, true_or, or_true, false_or, or_false, forall_eq, iteT, iteF, hQ, hR.1, LB_ hR.b, LT_ hR.t, LT_ hR.s]
    refine sp_layPlan (n := n2) (sn := sn) (dn := d2) hR (by rw [hb]; exact hV2.1) fun I3 hs3' hT3 => t131_149 ?_
    have hb3 : bd I3 (r + 2) = S := (hs3'.bd (fun a h1 h2 => by omega)).trans hb
    rw [hb] at hT3
    simp (disch := omega) only [vpT, nI_leI, nI_ltI, nI_eq, nleT, nleF, nltT, nltF, neqT, neqF, nI_add, pk_mul, subN, divN, nI_clamp, mI1, wrH, wrM1, wrM2, wrowH, wrowM, bI0, bI1, kIi, kVi, kRi, kLi, kIx, kVx, Option.some.injEq, exists_eq_left', true_and, and_true, true_implies, false_implies, implies_true, not_true_eq_false, not_false_eq_true, true_or, or_true, false_or, or_false, forall_eq, iteT, iteF, hQ, hR.1, LB_ hR.b, LT_ hR.t, LT_ hR.s]
    refine sp_cost (n := n2) (sn := sn) (dn := d2) (o := ordN S) hR.t hR.b (by rw [hb3]; exact hV2.1) (fun j hj => (BI_or hV2.1 j hj).2) (by rw [hb3]; exact hT3) (t131_153 ?_)
    rw [hb3]
    simp (disch := omega) only [vpT, nI_leI, nI_ltI, nI_eq, nleT, nleF, nltT, nltF, neqT, neqF, nI_add, pk_mul, subN, divN, nI_clamp, mI1, wrH, wrM1, wrM2, wrowH, wrowM, bI0, bI1, kIi, kVi, kRi, kLi, kIx, kVx, Option.some.injEq, exists_eq_left', true_and, and_true, true_implies, false_implies, implies_true, not_true_eq_false, not_false_eq_true, true_or, or_true, false_or, or_false, forall_eq, iteT, iteF, hQ, hR.1, LB_ hR.b, LT_ hR.t, LT_ hR.s]
    refine sp_passTo (n := n2) (sn := sn) (dn := d2) hQ hR hq (by rw [hb3]; exact hV2.1) (by rw [hb3]; exact hV2.2.1) fun I4 S4 D hs4 hf4 hp4 hb4 => t131_156 ?_
    rw [hb3, hs3' q (by omega), hac] at hp4
    simp (disch := omega) only [vpT, nI_leI, nI_ltI, nI_eq, nleT, nleF, nltT, nltF, neqT, neqF, nI_add, pk_mul, subN, divN, nI_clamp, mI1, wrH, wrM1, wrM2, wrowH, wrowM, bI0, bI1, kIi, kVi, kRi, kLi, kIx, kVx, Option.some.injEq, exists_eq_left', true_and, and_true, true_implies, false_implies, implies_true, not_true_eq_false, not_false_eq_true, true_or, or_true, false_or, or_false, forall_eq, iteT, iteF, hQ, hR.1, LB_ hR.b, LT_ hR.t, LT_ hR.s]
    have hD : D = n2 := by
      rw [← hp4.1]
      exact due_all fun j hj => cst1_ge hj
    refine K I4 (bd I1 (r + 2)) (S, n2, d2, a2) (fun a ha => by rw [hs4 a ha, hs3' a (by omega)]; exact hs a ha) f1 f2 f3 htr hV2 ?_ ?_
    · obtain ⟨S1, z1, -⟩ := hp4.2.1
      rw [hD] at z1
      exact ⟨S1, z1⟩
    · rw [hp4.2.2, hD]
      rfl
end RUN
