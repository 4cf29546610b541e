/-! The class's days. -/
abbrev acc : Type := Int32 × Int32 × Int32
/-- time goes on to x, what is done is counted -/
def PTo (S : BS) (n dn : Nat) (x : Int32) (a : acc) (D : Nat) (S' : BS) (a' : acc) : Prop := due (slt S (ordN S)) x n 0 = D ∧ (∃ S1, Pss (slt S (ordN S)) n dn D S S1 ∧ S' = (fun j => if j = 13 then x else bF S1 j, S1.2)) ∧ a' = (dCo S (ordN S) a.1 D, dLa S (ordN S) a.2.1 D, dWa S (ordN S) a.2.2 D)
theorem VB.pto {S S' : BS} {n sn dn T T' D : Nat} {x : Int32} {a a' : acc} (h : VB S n sn dn T) (h1 : T ≤ T') (h2 : T' ≤ 1000000) (x0 : 0 ≤ x.toInt) (xT : x.toInt ≤ T') (hp : PTo S n dn x a D S' a') : VB S' (n - D) sn (mn20 (dn + D)) T' ∧ D ≤ n := by
  obtain ⟨hD, ⟨S1, q1, rfl⟩, -⟩ := hp
  have hDn : D ≤ n := by rw [← hD]; have := due_le (f := slt S (ordN S)) (x := x) (m := n) (k := 0); omega
  have hsp := due_spec (f := slt S (ordN S)) (x := x) (m := n) (k := 0)
  rw [hD] at hsp
  have hn := h.1.1.2
  refine ⟨VB.now (VB.pss (h.up h1 h2) hDn (fun j hj => ?_) q1) x0 xT, hDn⟩
  have q := slt_up h.1 h.2.2.1 (k := j) (o := ordN S) (by omega) (fun i hi => (BI_or h.1 i (by omega)).2)
  have q2 := hsp.1 j (Nat.zero_le _) hj
  rw [Int32.lt_iff_toInt_lt] at q2
  omega
/-- the one that came last finds its place -/
def Arr (S S' : BS) (n sh : Nat) (way : Int32) : Prop := ∃ o, Oth S S' n o ∧ (way = nI 1 → ∃ v fr, Fnd S n (frz S n) sh (nI 0) v fr ∧ if v = -1 then o = ordN S else ROW fr o n ∧ Leaf S n (frz S n) sh true o) ∧ (way = nI 2 → if pinR S n (n - 1) = -1 then o = ordN S else ∃ p, p < n ∧ pinR S n (n - 1) = nI p ∧ o = mvd (ordN S) (n - 1) p) ∧ (way = nI 3 → if trdR S n = -1 then o = ordN S else ∃ p, p + 1 < n ∧ trdR S n = nI p ∧ o = swp (ordN S) p) ∧ (way = nI 0 → o = ordN S)
theorem Oth.rf {S : BS} {n sn dn : Nat} (h : BI S n sn dn) : Oth S S n (ordN S) := ⟨fun k hk => (BI_or h k hk).1, rfl, rfl, rfl, rfl, rfl, rfl, rfl, rfl, rfl, rfl, rfl, rfl⟩
abbrev dz (q r : Nat) : Nat → Prop := fun a => a = q ∨ r + 1 ≤ a ∧ a ≤ r + 26
section DAY
variable {d : Nat} {L : hL} {I : Nat → Nat → Int32} {J : Nat → Nat → Int64} {t : tl} {q r n sn dn T sh : Nat} {x : Int32} {F : Int32 → hp → Prop} {G : hp → Prop} {X : Nat → hp → Prop}
--facts hQ, hR.1, LB_ hR.b, LT_ hR.t, LT_ hR.s
theorem sp_draw {k : Nat} (hQ : L.1 q = 3 ∧ L.2.2.1 q 0 = some r) (hk0 : 0 < k) (hk : k < 100) (K : F (nI (dvl (drw (I q 1)) % k)) (L, wr I q 1 (drw (I q 1)), J, t)) : cal (d + 1) 132 [.ref q, .int (nI k)] (L, I, J, t) (kI F X) := by
  refine e132 (t132_0 ?_)
  have hv := drawn_s (drw (I q 1))
  simp (disch := omega) only [hQ, forall_eq, wrH, true_and, drawn_u, show I q 1 * nI 1103515245 + nI 12345 = drw (I q 1) from rfl, hv.1, remN, kIi]
  refine ⟨fun e => ?_, fun _ => ⟨fun e => ?_, K⟩⟩
  · have := (nI_leI (show k < 2 ^ 31 by omega) (by decide)).mp e
    omega
  · have := (nI_eq (show k < 2 ^ 31 by omega) (by decide)).mp e
    omega
theorem sp_passTo (hQ : L.1 q = 3 ∧ L.2.2.1 q 0 = some r) (hR : LR L r) (hq : q < r ∨ r + 26 < q) (hI : BI (bd I (r + 2)) n sn dn) (hP : PI (bd I (r + 2)) n) (K : ∀ I2 S' D, same I I2 (dz q r) → (∀ j, j < 2 ∨ 4 < j → I2 q j = I q j) → PTo (bd I (r + 2)) n dn x (I q 2, I q 3, I q 4) D S' (I2 q 2, I2 q 3, I2 q 4) → bd I2 (r + 2) = S' → G (L, I2, J, t)) : cal (d + 6) 133 [.ref q, .int x] (L, I, J, t) (kV G X) := by
  have hn := hI.1.2
  have hol := BI_or hI
  have hdl := due_le (f := slt (bd I (r + 2)) (ordN (bd I (r + 2)))) (x := x) (m := n) (k := 0)
  refine e133 (t133_0 ?_)
  simp (disch := omega) only [vpT, nI_leI, nI_ltI, nI_eq, nleT, nleF, nltT, nltF, neqT, neqF, nI_add, pk_mul, subN, divN, nI_clamp, mI1, wrH, wrM1, wrM2, wrowH, wrowM, bI0, bI1, kIi, kVi, kRi, kLi, kIx, kVx, Option.some.injEq, exists_eq_left', true_and, and_true, true_implies, false_implies, implies_true, not_true_eq_false, not_false_eq_true, true_or, or_true, false_or, or_false, forall_eq, iteT, iteF, hQ, hR.1, LB_ hR.b, LT_ hR.t, LT_ hR.s]
  refine sp_layPlan hR hI fun I1 hs1 hT1 => t133_15 ?_
  have hb1 : bd I1 (r + 2) = bd I (r + 2) := hs1.bd (fun a h1 h2 => by omega)
  simp (disch := omega) only [vpT, nI_leI, nI_ltI, nI_eq, nleT, nleF, nltT, nltF, neqT, neqF, nI_add, pk_mul, subN, divN, nI_clamp, mI1, wrH, wrM1, wrM2, wrowH, wrowM, bI0, bI1, kIi, kVi, kRi, kLi, kIx, kVx, Option.some.injEq, exists_eq_left', true_and, and_true, true_implies, false_implies, implies_true, not_true_eq_false, not_false_eq_true, true_or, or_true, false_or, or_false, forall_eq, iteT, iteF, hQ, hR.1, LB_ hR.b, LT_ hR.t, LT_ hR.s]
  refine sp_dueBy (n := n) (sn := sn) (dn := dn) (o := ordN (bd I (r + 2))) hR.t hR.b (by rw [hb1]; exact hI) (by rw [hb1]; exact hT1) (t133_21 ?_)
  rw [hb1]
  generalize hD : due (slt (bd I (r + 2)) (ordN (bd I (r + 2)))) x n 0 = D at hdl
  refine lg (n := D) (fun i l h => ∃ I2 l6 l7, l = [some (.ref q), some (.int x), some (.ref (r + 2)), some (.ref (r + 23)), some (.int (nI D)), some (.int (nI i)), l6, l7] ∧ h = (L, I2, J, t) ∧ same I1 I2 (fun a => a = q) ∧ (∀ j, j < 2 ∨ 4 < j → I2 q j = I q j) ∧ I2 q 2 = dCo (bd I (r + 2)) (ordN (bd I (r + 2))) (I q 2) i ∧ I2 q 3 = dLa (bd I (r + 2)) (ordN (bd I (r + 2))) (I q 3) i ∧ I2 q 4 = dWa (bd I (r + 2)) (ordN (bd I (r + 2))) (I q 4) i) ?_ ?_ (Nat.zero_le _) _ _ ⟨I1, _, _, rfl, rfl, same.rf, fun j _ => congrFun (hs1 q (by omega)) j, congrFun (hs1 q (by omega)) 2, congrFun (hs1 q (by omega)) 3, congrFun (hs1 q (by omega)) 4⟩
  · rintro i hi ih _ _ ⟨I2, l6, l7, rfl, rfl, hs, g0, g2, g3, g4⟩
    have hb2 : bd I2 (r + 2) = bd I (r + 2) := (hs.bd (fun a h1 h2 => by omega)).trans hb1
    have hT2 : Tab I2 (r + 23) (bd I (r + 2)) (ordN (bd I (r + 2))) n := hT1.same hs (fun a h1 h2 => by omega)
    have hoi := (hol i (by omega)).2
    have e6 : I2 (r + 2 + 6) i = nI (ordN (bd I (r + 2)) i) := by rw [hs _ (by omega), hs1 _ (by omega)]; exact (hol i (by omega)).1
    have e4 : I2 (r + 2 + 4) (ordN (bd I (r + 2)) i) = bWe (bd I (r + 2)) (ordN (bd I (r + 2)) i) := by rw [hs _ (by omega), hs1 _ (by omega)]; rfl
    refine t133_26 ?_
    simp (disch := omega) only [vpT, nI_leI, nI_ltI, nI_eq, nleT, nleF, nltT, nltF, neqT, neqF, nI_add, pk_mul, subN, divN, nI_clamp, mI1, wrH, wrM1, wrM2, wrowH, wrowM, bI0, bI1, kIi, kVi, kRi, kLi, kIx, kVx, Option.some.injEq, exists_eq_left', true_and, and_true, true_implies, false_implies, implies_true, not_true_eq_false, not_false_eq_true, true_or, or_true, false_or, or_false, forall_eq, iteT, iteF, hQ, hR.1, LB_ hR.b, LT_ hR.t, LT_ hR.s, (hT2.1 i (by omega)).2]
    refine sp_waitAt (n := n) (sn := sn) (dn := dn) (o := ordN (bd I (r + 2))) hR.t hR.b (by rw [hb2]; exact hI) (fun j hj => (hol j hj).2) (by rw [hb2]; exact hT2) (by omega) (t133_48 ?_)
    rw [hb2]
    simp (disch := omega) only [vpT, nI_leI, nI_ltI, nI_eq, nleT, nleF, nltT, nltF, neqT, neqF, nI_add, pk_mul, subN, divN, nI_clamp, mI1, wrH, wrM1, wrM2, wrowH, wrowM, bI0, bI1, kIi, kVi, kRi, kLi, kIx, kVx, Option.some.injEq, exists_eq_left', true_and, and_true, true_implies, false_implies, implies_true, not_true_eq_false, not_false_eq_true, true_or, or_true, false_or, or_false, forall_eq, iteT, iteF, hQ, hR.1, LB_ hR.b, LT_ hR.t, LT_ hR.s, e6, e4, g2, g3, g4]
    refine ih _ _ ⟨_, _, _, rfl, rfl, fun a ha => by rw [wrM1 ha, wrM1 ha, wrM1 ha]; exact hs a ha, fun j hj => ?_, ?_, ?_, ?_⟩
    · simp (disch := omega) only [vpT, nI_leI, nI_ltI, nI_eq, nleT, nleF, nltT, nltF, neqT, neqF, nI_add, pk_mul, subN, divN, nI_clamp, mI1, wrH, wrM1, wrM2, wrowH, wrowM, bI0, bI1, kIi, kVi, kRi, kLi, kIx, kVx, Option.some.injEq, exists_eq_left', true_and, and_true, true_implies, false_implies, implies_true, not_true_eq_false, not_false_eq_true, true_or, or_true, false_or, or_false, forall_eq, iteT, iteF, hQ, hR.1, LB_ hR.b, LT_ hR.t, LT_ hR.s]
      exact g0 j hj
    · simp (disch := omega) only [vpT, nI_leI, nI_ltI, nI_eq, nleT, nleF, nltT, nltF, neqT, neqF, nI_add, pk_mul, subN, divN, nI_clamp, mI1, wrH, wrM1, wrM2, wrowH, wrowM, bI0, bI1, kIi, kVi, kRi, kLi, kIx, kVx, Option.some.injEq, exists_eq_left', true_and, and_true, true_implies, false_implies, implies_true, not_true_eq_false, not_false_eq_true, true_or, or_true, false_or, or_false, forall_eq, iteT, iteF, hQ, hR.1, LB_ hR.b, LT_ hR.t, LT_ hR.s]
      rfl
    · simp (disch := omega) only [vpT, nI_leI, nI_ltI, nI_eq, nleT, nleF, nltT, nltF, neqT, neqF, nI_add, pk_mul, subN, divN, nI_clamp, mI1, wrH, wrM1, wrM2, wrowH, wrowM, bI0, bI1, kIi, kVi, kRi, kLi, kIx, kVx, Option.some.injEq, exists_eq_left', true_and, and_true, true_implies, false_implies, implies_true, not_true_eq_false, not_false_eq_true, true_or, or_true, false_or, or_false, forall_eq, iteT, iteF, hQ, hR.1, LB_ hR.b, LT_ hR.t, LT_ hR.s]
      rfl
    · simp (disch := omega) only [vpT, nI_leI, nI_ltI, nI_eq, nleT, nleF, nltT, nltF, neqT, neqF, nI_add, pk_mul, subN, divN, nI_clamp, mI1, wrH, wrM1, wrM2, wrowH, wrowM, bI0, bI1, kIi, kVi, kRi, kLi, kIx, kVx, Option.some.injEq, exists_eq_left', true_and, and_true, true_implies, false_implies, implies_true, not_true_eq_false, not_false_eq_true, true_or, or_true, false_or, or_false, forall_eq, iteT, iteF, hQ, hR.1, LB_ hR.b, LT_ hR.t, LT_ hR.s]
      rfl
  · rintro _ _ ⟨I2, l6, l7, rfl, rfl, hs, g0, g2, g3, g4⟩
    have hb2 : bd I2 (r + 2) = bd I (r + 2) := (hs.bd (fun a h1 h2 => by omega)).trans hb1
    refine t133_26 ?_
    simp (disch := omega) only [vpT, nI_leI, nI_ltI, nI_eq, nleT, nleF, nltT, nltF, neqT, neqF, nI_add, pk_mul, subN, divN, nI_clamp, mI1, wrH, wrM1, wrM2, wrowH, wrowM, bI0, bI1, kIi, kVi, kRi, kLi, kIx, kVx, Option.some.injEq, exists_eq_left', true_and, and_true, true_implies, false_implies, implies_true, not_true_eq_false, not_false_eq_true, true_or, or_true, false_or, or_false, forall_eq, iteT, iteF, hQ, hR.1, LB_ hR.b, LT_ hR.t, LT_ hR.s]
    refine sp_passTime (n := n) (sn := sn) (dn := dn) hR (by rw [hb2]; exact hI) (by rw [hb2]; exact hP) fun I3 S1 hs3 hps hbd => t133_114 ?_
    rw [hb2, hD] at hps
    simp (disch := omega) only [vpT, nI_leI, nI_ltI, nI_eq, nleT, nleF, nltT, nltF, neqT, neqF, nI_add, pk_mul, subN, divN, nI_clamp, mI1, wrH, wrM1, wrM2, wrowH, wrowM, bI0, bI1, kIi, kVi, kRi, kLi, kIx, kVx, Option.some.injEq, exists_eq_left', true_and, and_true, true_implies, false_implies, implies_true, not_true_eq_false, not_false_eq_true, true_or, or_true, false_or, or_false, forall_eq, iteT, iteF, hQ, hR.1, LB_ hR.b, LT_ hR.t, LT_ hR.s]
    have e3 : I3 q = I2 q := hs3 q (by omega)
    refine K I3 _ D (fun a ha => ?_) (fun j hj => by rw [e3]; exact g0 j hj) ⟨hD, ⟨S1, hps, rfl⟩, by rw [e3, g2, g3, g4]⟩ hbd
    rw [hs3 a (by omega), hs a (fun w => ha (Or.inl w)), hs1 a (by omega)]
theorem sp_arrange {way : Nat} (hQ : L.1 q = 3 ∧ L.2.2.1 q 0 = some r) (hR : LR L r) (hq : q < r ∨ r + 26 < q) (hV : VB (bd I (r + 2)) n sn dn T) (h0 : 0 < n) (hlast : ordN (bd I (r + 2)) (n - 1) = n - 1) (hsh : bF (bd I (r + 2)) 11 = nI sh) (hs3 : sh ≤ 3) (hw : way ≤ 3) (K : ∀ I2, same I I2 (dz q r) → I2 q = I q → Arr (bd I (r + 2)) (bd I2 (r + 2)) n sh (nI way) → VB (bd I2 (r + 2)) n sn dn T → G (L, I2, J, t)) : cal (d + 17) 137 [.ref q, .int (nI way)] (L, I, J, t) (kV G X) := by
  obtain ⟨hI, hP, hBV, hu, hsx⟩ := hV
  have hV : VB (bd I (r + 2)) n sn dn T := ⟨hI, hP, hBV, hu, hsx⟩
  have hn := hI.1.2
  have hol := BI_or hI
  have w01 : ∀ a b : Nat, a < 10 → b < 10 → (nI a = nI b) = (a = b) := fun a b ha hb => propext (nI_eq (by omega) (by omega))
  have hfz := frz_le (S := bd I (r + 2)) (n := n)
  refine e137 (t137_0 ?_)
  have ext : ∀ I2 o, (∀ a, r + 2 ≤ a → a ≤ r + 2 + 12 → a ≠ r + 2 + 6 → I2 a = I a) → ROW (I2 (r + 2 + 6)) o n → Oth (bd I (r + 2)) (bd I2 (r + 2)) n o := fun I2 o h1 h2 => ⟨h2, h1 _ (by omega) (by omega) (by omega), h1 _ (by omega) (by omega) (by omega), h1 _ (by omega) (by omega) (by omega), h1 _ (by omega) (by omega) (by omega), h1 _ (by omega) (by omega) (by omega), h1 _ (by omega) (by omega) (by omega), h1 _ (by omega) (by omega) (by omega), h1 _ (by omega) (by omega) (by omega), h1 _ (by omega) (by omega) (by omega), h1 _ (by omega) (by omega) (by omega), h1 _ (by omega) (by omega) (by omega), h1 _ (by omega) (by omega) (by omega)⟩
  have rf : ∀ I2, bd I2 (r + 2) = bd I (r + 2) → Oth (bd I (r + 2)) (bd I2 (r + 2)) n (ordN (bd I (r + 2))) := fun I2 e => by rw [e]; exact Oth.rf hI
  -- the last two steps, where they do nothing
  have skip3 : ∀ I2 l3 l4 l5, way ≠ 3 → G (L, I2, J, t) → Wp (cal (d + 16)) kc_137 [] (kV G X) (78, [some (.ref q), some (.int (nI way)), some (.ref (r + 2)), some (.int l3), some (.int l4), l5], [], (L, I2, J, t)) := by
    intro I2 l3 l4 l5 h kk
    refine t137_78 ?_
    simp (disch := omega) only [vpT, nI_leI, nI_ltI, nI_eq, nleT, nleF, nltT, nltF, neqT, neqF, nI_add, pk_mul, subN, divN, nI_clamp, mI1, wrH, wrM1, wrM2, wrowH, wrowM, bI0, bI1, kIi, kVi, kRi, kLi, kIx, kVx, Option.some.injEq, exists_eq_left', true_and, and_true, true_implies, false_implies, implies_true, not_true_eq_false, not_false_eq_true, true_or, or_true, false_or, or_false, forall_eq, iteT, iteF, hQ, hR.1, LB_ hR.b, LT_ hR.t, LT_ hR.s]
    refine t137_108 ?_
    simp (disch := omega) only [vpT, nI_leI, nI_ltI, nI_eq, nleT, nleF, nltT, nltF, neqT, neqF, nI_add, pk_mul, subN, divN, nI_clamp, mI1, wrH, wrM1, wrM2, wrowH, wrowM, bI0, bI1, kIi, kVi, kRi, kLi, kIx, kVx, Option.some.injEq, exists_eq_left', true_and, and_true, true_implies, false_implies, implies_true, not_true_eq_false, not_false_eq_true, true_or, or_true, false_or, or_false, forall_eq, iteT, iteF, hQ, hR.1, LB_ hR.b, LT_ hR.t, LT_ hR.s]
    exact kk
  have skip2 : ∀ I2 l3 l4 l5, I2 (r + 2) 0 = nI n → way ≠ 2 → way ≠ 3 → G (L, I2, J, t) → Wp (cal (d + 16)) kc_137 [] (kV G X) (39, [some (.ref q), some (.int (nI way)), some (.ref (r + 2)), l3, l4, l5], [], (L, I2, J, t)) := by
    intro I2 l3 l4 l5 i0 h h3 kk
    refine t137_39 ?_
    simp (disch := omega) only [vpT, nI_leI, nI_ltI, nI_eq, nleT, nleF, nltT, nltF, neqT, neqF, nI_add, pk_mul, subN, divN, nI_clamp, mI1, wrH, wrM1, wrM2, wrowH, wrowM, bI0, bI1, kIi, kVi, kRi, kLi, kIx, kVx, Option.some.injEq, exists_eq_left', true_and, and_true, true_implies, false_implies, implies_true, not_true_eq_false, not_false_eq_true, true_or, or_true, false_or, or_false, forall_eq, iteT, iteF, hQ, hR.1, LB_ hR.b, LT_ hR.t, LT_ hR.s, i0]
    exact skip3 I2 _ _ _ h3 kk
  by_cases hw1 : way = 1
  · subst hw1
    simp (disch := omega) only [vpT, nI_leI, nI_ltI, nI_eq, nleT, nleF, nltT, nltF, neqT, neqF, nI_add, pk_mul, subN, divN, nI_clamp, mI1, wrH, wrM1, wrM2, wrowH, wrowM, bI0, bI1, kIi, kVi, kRi, kLi, kIx, kVx, Option.some.injEq, exists_eq_left', true_and, and_true, true_implies, false_implies, implies_true, not_true_eq_false, not_false_eq_true, true_or, or_true, false_or, or_false, forall_eq, iteT, iteF, hQ, hR.1, LB_ hR.b, LT_ hR.t, LT_ hR.s]
    refine sp_bestCost (n := n) (sn := sn) (dn := dn) (T := T) (sh := sh) hR hI hBV hu hP hsh hs3 fun I2 v hs2 hF => t137_21 ?_
    have hb2 : bd I2 (r + 2) = bd I (r + 2) := hs2.bd (fun a h1 h2 => by omega)
    have i0 : I2 (r + 2) 0 = nI n := by rw [hs2 _ (by omega)]; exact hI.1.1
    simp (disch := omega) only [vpT, nI_leI, nI_ltI, nI_eq, nleT, nleF, nltT, nltF, neqT, neqF, nI_add, pk_mul, subN, divN, nI_clamp, mI1, wrH, wrM1, wrM2, wrowH, wrowM, bI0, bI1, kIi, kVi, kRi, kLi, kIx, kVx, Option.some.injEq, exists_eq_left', true_and, and_true, true_implies, false_implies, implies_true, not_true_eq_false, not_false_eq_true, true_or, or_true, false_or, or_false, forall_eq, iteT, iteF, hQ, hR.1, LB_ hR.b, LT_ hR.t, LT_ hR.s]
    refine ⟨fun h => ?_, fun h => ?_⟩
    · refine skip2 I2 _ _ _ i0 (by decide) (by decide) (K I2 (hs2.up fun a h => by omega) (hs2 q (by omega)) ⟨ordN (bd I (r + 2)), rf I2 hb2, fun _ => ⟨v, _, hF, by rw [if_pos h]⟩, fun w => ?_, fun w => ?_, fun w => rfl⟩ (by rw [hb2]; exact hV))
      · rw [w01 1 2 (by decide) (by decide)] at w; omega
      · rw [w01 1 3 (by decide) (by decide)] at w; omega
    · refine sp_setOrder hR.b hR.1.2.2.2.2.2.2.2.2.2.2.2.2.2.2.2.1 hR.1.2.2.2.2.2.2.2.2.2.2.2.2.2.2.2.2.2.2 ?_
      have hF2 := hF
      obtain ⟨f0, L1, hB, hv⟩ := hF
      rcases hB with ⟨q1, -, -⟩ | ⟨o, ho1, ho2, ho3, ho4, ho5⟩
      · rw [q1, if_pos rfl] at hv; exact absurd hv h
      have hrow : ROW (wrow I2 (r + 2 + 6) (va_cpy (I2 (r + 18)) (I2 (r + 2 + 6)) 0 0 10) (r + 2 + 6)) o n := fun k hk => by rw [wrowH rfl, sb_cpy0 (by omega)]; exact ho4 k hk
      have hO := ext (wrow I2 (r + 2 + 6) (va_cpy (I2 (r + 18)) (I2 (r + 2 + 6)) 0 0 10)) o (fun a h1 h2 h3 => by rw [wrowM h3]; exact hs2 a (by omega)) hrow
      refine skip2 _ _ _ _ (by rw [wrowM (by omega)]; exact i0) (by decide) (by decide) (K _ (fun a ha => by rw [wrowM (by omega)]; exact hs2 a (by omega)) (by rw [wrowM (by omega)]; exact hs2 q (by omega)) ⟨o, hO, fun _ => ⟨v, _, hF2, by rw [if_neg h]; exact ⟨ho4, ho1⟩⟩, fun w => ?_, fun w => ?_, fun w => ?_⟩ (hV.oth hO ho1.1 ho1.2.1))
      · rw [w01 1 2 (by decide) (by decide)] at w; omega
      · rw [w01 1 3 (by decide) (by decide)] at w; omega
      · rw [w01 1 0 (by decide) (by decide)] at w; omega
  · have i0 : I (r + 2) 0 = nI n := hI.1.1
    simp (disch := omega) only [vpT, nI_leI, nI_ltI, nI_eq, nleT, nleF, nltT, nltF, neqT, neqF, nI_add, pk_mul, subN, divN, nI_clamp, mI1, wrH, wrM1, wrM2, wrowH, wrowM, bI0, bI1, kIi, kVi, kRi, kLi, kIx, kVx, Option.some.injEq, exists_eq_left', true_and, and_true, true_implies, false_implies, implies_true, not_true_eq_false, not_false_eq_true, true_or, or_true, false_or, or_false, forall_eq, iteT, iteF, hQ, hR.1, LB_ hR.b, LT_ hR.t, LT_ hR.s]
    by_cases hw2 : way = 2
    · subst hw2
      refine t137_39 ?_
      simp (disch := omega) only [vpT, nI_leI, nI_ltI, nI_eq, nleT, nleF, nltT, nltF, neqT, neqF, nI_add, pk_mul, subN, divN, nI_clamp, mI1, wrH, wrM1, wrM2, wrowH, wrowM, bI0, bI1, kIi, kVi, kRi, kLi, kIx, kVx, Option.some.injEq, exists_eq_left', true_and, and_true, true_implies, false_implies, implies_true, not_true_eq_false, not_false_eq_true, true_or, or_true, false_or, or_false, forall_eq, iteT, iteF, hQ, hR.1, LB_ hR.b, LT_ hR.t, LT_ hR.s, i0]
      refine sp_placeToPutIn (n := n) (sn := sn) (dn := dn) (a := n - 1) hR hI hP (by omega) hlast fun I2 hs2 => t137_59 ?_
      have hb2 : bd I2 (r + 2) = bd I (r + 2) := hs2.bd (fun a h1 h2 => by omega)
      simp (disch := omega) only [vpT, nI_leI, nI_ltI, nI_eq, nleT, nleF, nltT, nltF, neqT, neqF, nI_add, pk_mul, subN, divN, nI_clamp, mI1, wrH, wrM1, wrM2, wrowH, wrowM, bI0, bI1, kIi, kVi, kRi, kLi, kIx, kVx, Option.some.injEq, exists_eq_left', true_and, and_true, true_implies, false_implies, implies_true, not_true_eq_false, not_false_eq_true, true_or, or_true, false_or, or_false, forall_eq, iteT, iteF, hQ, hR.1, LB_ hR.b, LT_ hR.t, LT_ hR.s]
      refine ⟨fun h => ?_, fun h => ?_⟩
      · refine skip3 I2 _ _ _ (by decide) (K I2 (hs2.up fun a h => by omega) (hs2 q (by omega)) ⟨ordN (bd I (r + 2)), rf I2 hb2, fun w => ?_, fun _ => by rw [if_pos h], fun w => ?_, fun w => rfl⟩ (by rw [hb2]; exact hV))
        · rw [w01 2 1 (by decide) (by decide)] at w; omega
        · rw [w01 2 3 (by decide) (by decide)] at w; omega
      · obtain ⟨p, hp, ep⟩ : ∃ p, p < n ∧ pinR (bd I (r + 2)) n (n - 1) = nI p := by
          unfold pinR at h ⊢
          by_cases w : n - 1 < frz (bd I (r + 2)) n
          · rw [if_pos w] at h; exact absurd rfl h
          · rw [if_neg w] at h ⊢
            rcases bst_val (ok := pokS (bd I (r + 2)) n (n - 1)) (co := pcoS (bd I (r + 2)) n (n - 1)) (f := frz (bd I (r + 2)) n) (m := n - frz (bd I (r + 2)) n) with z | ⟨p, z1, z2, z3⟩
            · exact absurd z h
            · exact ⟨p, by omega, z3⟩
        rw [ep] at h ⊢
        refine sp_moveTo (n := n) (sn := sn) (dn := dn) (a := n - 1) hR.b (by rw [hb2]; exact hI) (by rw [hb2]; exact hP) (by omega) (by rw [hb2]; exact hlast) hp fun I3 hs3' hr3 => ?_
        rw [hb2] at hr3
        have hO := ext I3 _ (fun a h1 h2 h3 => by rw [hs3' a h3]; exact hs2 a (by omega)) hr3
        refine skip3 I3 _ _ _ (by decide) (K I3 (fun a ha => by rw [hs3' a (by omega)]; exact hs2 a (by omega)) (by rw [hs3' q (by omega)]; exact hs2 q (by omega)) ⟨_, hO, fun w => ?_, fun _ => by rw [if_neg (by rw [ep]; exact h)]; exact ⟨p, hp, ep, rfl⟩, fun w => ?_, fun w => ?_⟩ (hV.oth hO (fun j hj => mvd_lt (fun j hj => (hol j hj).2) (by omega) hp hj) (mvd_inj (by omega) hp hP)))
        · rw [w01 2 1 (by decide) (by decide)] at w; omega
        · rw [w01 2 3 (by decide) (by decide)] at w; omega
        · rw [w01 2 0 (by decide) (by decide)] at w; omega
    · by_cases hw3 : way = 3
      · subst hw3
        refine t137_39 ?_
        simp (disch := omega) only [vpT, nI_leI, nI_ltI, nI_eq, nleT, nleF, nltT, nltF, neqT, neqF, nI_add, pk_mul, subN, divN, nI_clamp, mI1, wrH, wrM1, wrM2, wrowH, wrowM, bI0, bI1, kIi, kVi, kRi, kLi, kIx, kVx, Option.some.injEq, exists_eq_left', true_and, and_true, true_implies, false_implies, implies_true, not_true_eq_false, not_false_eq_true, true_or, or_true, false_or, or_false, forall_eq, iteT, iteF, hQ, hR.1, LB_ hR.b, LT_ hR.t, LT_ hR.s, i0]
        refine t137_78 ?_
        simp (disch := omega) only [vpT, nI_leI, nI_ltI, nI_eq, nleT, nleF, nltT, nltF, neqT, neqF, nI_add, pk_mul, subN, divN, nI_clamp, mI1, wrH, wrM1, wrM2, wrowH, wrowM, bI0, bI1, kIi, kVi, kRi, kLi, kIx, kVx, Option.some.injEq, exists_eq_left', true_and, and_true, true_implies, false_implies, implies_true, not_true_eq_false, not_false_eq_true, true_or, or_true, false_or, or_false, forall_eq, iteT, iteF, hQ, hR.1, LB_ hR.b, LT_ hR.t, LT_ hR.s]
        refine sp_placeToTrade (n := n) (sn := sn) (dn := dn) (sh := sh) hR hI hsh hs3 fun I2 hs2 => t137_90 ?_
        have hb2 : bd I2 (r + 2) = bd I (r + 2) := hs2.bd (fun a h1 h2 => by omega)
        simp (disch := omega) only [vpT, nI_leI, nI_ltI, nI_eq, nleT, nleF, nltT, nltF, neqT, neqF, nI_add, pk_mul, subN, divN, nI_clamp, mI1, wrH, wrM1, wrM2, wrowH, wrowM, bI0, bI1, kIi, kVi, kRi, kLi, kIx, kVx, Option.some.injEq, exists_eq_left', true_and, and_true, true_implies, false_implies, implies_true, not_true_eq_false, not_false_eq_true, true_or, or_true, false_or, or_false, forall_eq, iteT, iteF, hQ, hR.1, LB_ hR.b, LT_ hR.t, LT_ hR.s]
        refine ⟨fun h => t137_108 ?_, fun h => ?_⟩
        · simp (disch := omega) only [vpT, nI_leI, nI_ltI, nI_eq, nleT, nleF, nltT, nltF, neqT, neqF, nI_add, pk_mul, subN, divN, nI_clamp, mI1, wrH, wrM1, wrM2, wrowH, wrowM, bI0, bI1, kIi, kVi, kRi, kLi, kIx, kVx, Option.some.injEq, exists_eq_left', true_and, and_true, true_implies, false_implies, implies_true, not_true_eq_false, not_false_eq_true, true_or, or_true, false_or, or_false, forall_eq, iteT, iteF, hQ, hR.1, LB_ hR.b, LT_ hR.t, LT_ hR.s]
          refine K I2 (hs2.up fun a h => by omega) (hs2 q (by omega)) ⟨ordN (bd I (r + 2)), rf I2 hb2, fun w => ?_, fun w => ?_, fun _ => by rw [if_pos h], fun w => rfl⟩ (by rw [hb2]; exact hV)
          · rw [w01 3 1 (by decide) (by decide)] at w; omega
          · rw [w01 3 2 (by decide) (by decide)] at w; omega
        · obtain ⟨p, hp, ep⟩ : ∃ p, p + 1 < n ∧ trdR (bd I (r + 2)) n = nI p := by
            unfold trdR at h ⊢
            rcases trd_val (ok := tokS (bd I (r + 2)) n) (co := tcoS (bd I (r + 2)) n) (l0 := cst (bd I (r + 2)) (ordN (bd I (r + 2))) (nI 0) n) (f := frz (bd I (r + 2)) n) (m := n - 1 - frz (bd I (r + 2)) n) with z | ⟨p, z1, z2, z3⟩
            · exact absurd z h
            · exact ⟨p, by omega, z3⟩
          rw [ep] at h ⊢
          refine sp_swapWithNext (n := n) hR.b (by rw [hs2 _ (by omega)]; exact i0) hn hp (t137_108 ?_)
          simp (disch := omega) only [vpT, nI_leI, nI_ltI, nI_eq, nleT, nleF, nltT, nltF, neqT, neqF, nI_add, pk_mul, subN, divN, nI_clamp, mI1, wrH, wrM1, wrM2, wrowH, wrowM, bI0, bI1, kIi, kVi, kRi, kLi, kIx, kVx, Option.some.injEq, exists_eq_left', true_and, and_true, true_implies, false_implies, implies_true, not_true_eq_false, not_false_eq_true, true_or, or_true, false_or, or_false, forall_eq, iteT, iteF, hQ, hR.1, LB_ hR.b, LT_ hR.t, LT_ hR.s]
          have row2 : ∀ k, k < n → I2 (r + 2 + 6) k = nI (ordN (bd I (r + 2)) k) := fun k hk => by rw [hs2 _ (by omega)]; exact (hol k hk).1
          have hrow : ROW (wr (wr I2 (r + 2 + 6) p (I2 (r + 2 + 6) (p + 1))) (r + 2 + 6) (p + 1) (I2 (r + 2 + 6) p) (r + 2 + 6)) (swp (ordN (bd I (r + 2))) p) n := fun k hk => by
            by_cases z1 : k = p
            · rw [wrM2 (by omega), wrH rfl z1, swp_a z1]; exact row2 _ hp
            · by_cases z2 : k = p + 1
              · rw [wrH rfl z2, swp_b z2]; exact row2 _ (by omega)
              · rw [wrM2 z2, wrM2 z1, swp_o z1 z2]; exact row2 _ hk
          have hO := ext _ _ (fun a h1 h2 h3 => by rw [wrM1 h3, wrM1 h3]; exact hs2 a (by omega)) hrow
          have sinj : ∀ i j, i < n → j < n → swp (ordN (bd I (r + 2))) p i = swp (ordN (bd I (r + 2))) p j → i = j := fun i j hi hj e => by
            rw [← mvd_swp, ← mvd_swp] at e
            exact mvd_inj (by omega) hp hP i j hi hj e
          refine K _ (fun a ha => by rw [wrM1 (by omega), wrM1 (by omega)]; exact hs2 a (by omega)) (by rw [wrM1 (by omega), wrM1 (by omega)]; exact hs2 q (by omega)) ⟨_, hO, fun w => ?_, fun w => ?_, fun _ => by rw [if_neg (by rw [ep]; exact h)]; exact ⟨p, hp, ep, rfl⟩, fun w => ?_⟩ (hV.oth hO (fun j hj => swp_lt (fun j hj => (hol j hj).2) hp hj) sinj)
          · rw [w01 3 1 (by decide) (by decide)] at w; omega
          · rw [w01 3 2 (by decide) (by decide)] at w; omega
          · rw [w01 3 0 (by decide) (by decide)] at w; omega
      · have hw0 : way = 0 := by omega
        subst hw0
        refine skip2 I _ _ _ i0 (by decide) (by decide) (K I same.rf rfl ⟨ordN (bd I (r + 2)), rf I rfl, fun w => ?_, fun w => ?_, fun w => ?_, fun w => rfl⟩ hV)
        · rw [w01 0 1 (by decide) (by decide)] at w; omega
        · rw [w01 0 2 (by decide) (by decide)] at w; omega
        · rw [w01 0 3 (by decide) (by decide)] at w; omega
end DAY
