/-! The class's runways: around, time goes on, held by, waits, holes. -/
/-- a craft has gone around: c, at place p, by x -/
def Snd (S S' : BS) (n c p : Nat) (x : Int32) : Prop := bF S' = bF S ∧ (∀ k, k ≠ c → bRe S' k = bRe S k ∧ bLa S' k = bLa S k) ∧ (bRe S' c = mn (slt S (ordN S) p + x) (nI 999) ∧ bLa S' c = mn (mx (bLa S c + x) (mn (slt S (ordN S) p + x) (nI 999))) (nI 1999)) ∧ ROW (bOr S') (mvd (ordN S) p (n - 1)) n ∧ (bSo S' = bSo S ∧ bWe S' = bWe S ∧ bHu S' = bHu S ∧ bGa S' = bGa S ∧ bSF S' = bSF S ∧ bST S' = bST S ∧ bDo S' = bDo S ∧ bDS S' = bDS S ∧ bDW S' = bDW S)
def mn20 (k : Nat) : Nat := min k 20
/-- the first i of the plan are done, with slots sl -/
def Pss (sl : Nat → Int32) (n dn : Nat) : Nat → BS → BS → Prop
  | 0, S, S' => S' = S
  | i + 1, S, S' => ∃ S1 T, Pss sl n dn i S S1 ∧ DnA S1 T (mn20 (dn + i)) (mn20 (dn + i + 1)) (bSo S1 (ordN S1 0)) (sl i) (sl i - bRe S1 (ordN S1 0)) ∧ Rmv T S' (n - i) (ordN S1 0) 0
theorem mn20_le {k : Nat} : mn20 k ≤ 20 := by unfold mn20; omega
theorem BI_bF {S S' : BS} {n sn dn : Nat} (h : BI S n sn dn) (e0 : bF S' 0 = bF S 0) (e8 : bF S' 8 = bF S 8) (e14 : bF S' 14 = bF S 14) (eo : bSo S' = bSo S) (er : bOr S' = bOr S) (ed : bDo S' = bDo S) : BI S' n sn dn := by
  unfold BI
  rw [e0, e8, e14, eo, er, ed]
  exact h
theorem DnA_BI {S S' : BS} {n sn dn : Nat} {so sl wa : Int32} {z : Nat} (h : BI S n sn dn) (hd : DnA S S' dn (mn20 (dn + 1)) so sl wa) (hz : z < 8) (e : so = nI z) : BI S' n sn (mn20 (dn + 1)) := by
  obtain ⟨⟨f14, ff⟩, ⟨r1, -, -, -, -, r6, -⟩, ⟨d1, -, -⟩, dd⟩ := hd
  obtain ⟨h1, h2, h3, h4, h5, h6⟩ := h
  refine ⟨by rw [ff 0 (by decide)]; exact h1, by rw [ff 8 (by decide)]; exact h2, ⟨f14, mn20_le⟩, by rw [r1]; exact h4, by rw [r6]; exact h5, fun k hk => ?_⟩
  have h20 := h3.2
  by_cases ek : k = mn20 (dn + 1) - 1
  · rw [ek, d1]; exact ⟨z, hz, e⟩
  · unfold mn20 at hk ek dd
    have := (dd (min (dn + 1) 20 - 2 - k) (by omega)).1
    rw [show min (dn + 1) 20 - 1 - (min (dn + 1) 20 - 2 - k + 1) = k by omega] at this
    rw [this]
    exact h6 _ (by omega)
theorem DnA_PI {S S' : BS} {n dn dn' : Nat} {so sl wa : Int32} (h : PI S n) (hd : DnA S S' dn dn' so sl wa) : PI S' n := by
  unfold PI ordN
  rw [hd.2.1.2.2.2.2.2.1]
  exact h
theorem Rmv_BI {S S' : BS} {n sn dn c p : Nat} (h : BI S n sn dn) (hP : PI S n) (hp : p < n) (hc : ordN S p = c) (hr : Rmv S S' n c p) : BI S' (n - 1) sn dn ∧ PI S' (n - 1) := by
  obtain ⟨⟨f0, ff⟩, rr, g1, -, -, g4, -, -⟩ := hr
  obtain ⟨h1, h2, h3, h4, h5, h6⟩ := h
  have ol : ∀ j, j < n → ordN S j < n := fun j hj => by
    obtain ⟨z, hz, e⟩ := h5 j hj
    unfold ordN
    rw [e, nI_clamp (by omega)]
    exact hz
  have hcn : c < n := by rw [← hc]; exact ol p hp
  have vl : ∀ k, k < n - 1 → dn1 c (ordN S (sk p k)) < n - 1 := fun k hk => by
    have h8 := ol _ (sk_lt (a := p) hk)
    have h9 : ordN S (sk p k) ≠ c := fun e => by
      have := hP _ _ (sk_lt (a := p) hk) hp (e.trans hc.symm)
      unfold sk at this
      split at this <;> omega
    unfold dn1
    split <;> omega
  have eo : ∀ k, k < n - 1 → ordN S' k = dn1 c (ordN S (sk p k)) := fun k hk => by
    unfold ordN
    rw [(rr k hk).2.2.2.2.2, nI_clamp (by have := vl k hk; omega)]
    rfl
  refine ⟨⟨⟨f0, by omega⟩, by rw [ff 8 (by decide)]; exact h2, by rw [ff 14 (by decide)]; exact h3, fun k hk => ?_, fun k hk => ⟨_, vl k hk, (rr k hk).2.2.2.2.2⟩, by rw [g4]; exact h6⟩, fun i j hi hj he => ?_⟩
  · rw [(rr k hk).1]; exact h4 _ (sk_lt hk)
  · rw [eo i hi, eo j hj] at he
    have n1 : ordN S (sk p i) ≠ c := fun e => by
      have := hP _ _ (sk_lt (a := p) hi) hp (e.trans hc.symm)
      unfold sk at this
      split at this <;> omega
    have n2 : ordN S (sk p j) ≠ c := fun e => by
      have := hP _ _ (sk_lt (a := p) hj) hp (e.trans hc.symm)
      unfold sk at this
      split at this <;> omega
    have : ordN S (sk p i) = ordN S (sk p j) := by
      unfold dn1 at he
      split at he <;> split at he <;> omega
    have := hP _ _ (sk_lt (a := p) hi) (sk_lt (a := p) hj) this
    unfold sk at this
    split at this <;> split at this <;> omega
section RUNWAY4
variable {d : Nat} {L : hL} {I : Nat → Nat → Int32} {J : Nat → Nat → Int64} {t : tl} {r b n sn dn : Nat} {F : Int32 → hp → Prop} {G : hp → Prop} {N : Nat → hp → Prop} {X : Nat → hp → Prop}
--facts hR.1, LB_ hR.b, LT_ hR.t, LT_ hR.s
theorem sp_sendAround {c p : Nat} {x : Int32} (hR : LR L r) (hI : BI (bd I (r + 2)) n sn dn) (hP : PI (bd I (r + 2)) n) (hp : p < n) (hc : ordN (bd I (r + 2)) p = c) (k : ∀ I2, same I I2 (fun a => r + 2 ≤ a ∧ a ≤ r + 2 + 12 ∨ tb r a) → Snd (bd I (r + 2)) (bd I2 (r + 2)) n c p x → G (L, I2, J, t)) : cal (d + 6) 128 [.ref r, .int (nI c), .int x] (L, I, J, t) (kV G X) := by
  have hn := hI.1.2
  have hcn : c < n := by rw [← hc]; exact (bi_or hI hp).2
  refine e128 (t128_0 ?_)
  simp (disch := omega) only [vpT, nI_leI, nI_ltI, nI_eq, nleT, nleF, nltT, nltF, neqT, neqF, nI_add, pk_mul, subN, divN, nI_clamp, mI1, wrH, wrM1, wrM2, wrowH, wrowM, bI0, bI1, kIi, kVi, kRi, kLi, kIx, kVx, Option.some.injEq, exists_eq_left', true_and, and_true, true_implies, false_implies, implies_true, not_true_eq_false, not_false_eq_true, true_or, or_true, false_or, or_false, forall_eq, iteT, iteF, hR.1, LB_ hR.b, LT_ hR.t, LT_ hR.s]
  refine sp_slotOf hR hI hP hp hc fun I1 hs1 hT1 => t128_5 ?_
  have hb1 : bd I1 (r + 2) = bd I (r + 2) := hs1.bd (fun a h1 h2 => by omega)
  have i0 : I1 (r + 2) 0 = nI n := by rw [hs1 _ (by omega)]; exact hI.1.1
  have e2 : I1 (r + 2 + 2) = I (r + 2 + 2) := hs1 _ (by omega)
  have e3 : I1 (r + 2 + 3) = I (r + 2 + 3) := hs1 _ (by omega)
  generalize hsl : slt (bd I (r + 2)) (ordN (bd I (r + 2))) p = s
  simp (disch := omega) only [vpT, nI_leI, nI_ltI, nI_eq, nleT, nleF, nltT, nltF, neqT, neqF, nI_add, pk_mul, subN, divN, nI_clamp, mI1, wrH, wrM1, wrM2, wrowH, wrowM, bI0, bI1, kIi, kVi, kRi, kLi, kIx, kVx, Option.some.injEq, exists_eq_left', true_and, and_true, true_implies, false_implies, implies_true, not_true_eq_false, not_false_eq_true, true_or, or_true, false_or, or_false, forall_eq, iteT, iteF, hR.1, LB_ hR.b, LT_ hR.t, LT_ hR.s, i0, e3]
  have hbq : ∀ v w, bF (bd (wr (wr I1 (r + 2 + 2) c v) (r + 2 + 3) c w) (r + 2)) = bF (bd I (r + 2)) ∧ bOr (bd (wr (wr I1 (r + 2 + 2) c v) (r + 2 + 3) c w) (r + 2)) = bOr (bd I (r + 2)) ∧ bSo (bd (wr (wr I1 (r + 2 + 2) c v) (r + 2 + 3) c w) (r + 2)) = bSo (bd I (r + 2)) ∧ bDo (bd (wr (wr I1 (r + 2 + 2) c v) (r + 2 + 3) c w) (r + 2)) = bDo (bd I (r + 2)) := by
    intro v w
    rw [← hb1]
    simp (disch := omega) only [vpT, nI_leI, nI_ltI, nI_eq, nleT, nleF, nltT, nltF, neqT, neqF, nI_add, pk_mul, subN, divN, nI_clamp, mI1, wrH, wrM1, wrM2, wrowH, wrowM, bI0, bI1, kIi, kVi, kRi, kLi, kIx, kVx, Option.some.injEq, exists_eq_left', true_and, and_true, true_implies, false_implies, implies_true, not_true_eq_false, not_false_eq_true, true_or, or_true, false_or, or_false, forall_eq, iteT, iteF, bd, bF, bSo, bRe, bLa, bWe, bHu, bOr, bGa, bSF, bST, bDo, bDS, bDW, hR.1, LB_ hR.b, LT_ hR.t, LT_ hR.s]
  have hord : ∀ v w, ordN (bd (wr (wr I1 (r + 2 + 2) c v) (r + 2 + 3) c w) (r + 2)) = ordN (bd I (r + 2)) := fun v w => by unfold ordN; rw [(hbq v w).2.1]
  refine sp_moveTo (n := n) (sn := sn) (dn := dn) (a := p) hR.b (BI_bF hI (congrFun (hbq _ _).1 _) (congrFun (hbq _ _).1 _) (congrFun (hbq _ _).1 _) (hbq _ _).2.2.1 (hbq _ _).2.1 (hbq _ _).2.2.2) (by unfold PI; rw [hord]; exact hP) hp (by rw [hord]; exact hc) (by omega) fun I2 hs2 hr2 => t128_71 ?_
  rw [hord] at hr2
  simp (disch := omega) only [vpT, nI_leI, nI_ltI, nI_eq, nleT, nleF, nltT, nltF, neqT, neqF, nI_add, pk_mul, subN, divN, nI_clamp, mI1, wrH, wrM1, wrM2, wrowH, wrowM, bI0, bI1, kIi, kVi, kRi, kLi, kIx, kVx, Option.some.injEq, exists_eq_left', true_and, and_true, true_implies, false_implies, implies_true, not_true_eq_false, not_false_eq_true, true_or, or_true, false_or, or_false, forall_eq, iteT, iteF, hR.1, LB_ hR.b, LT_ hR.t, LT_ hR.s]
  have row : ∀ a, a ≠ r + 2 + 6 → I2 a = _ := fun a ha => hs2 a ha
  have r1 : ∀ a, ¬ (r + 23 < a ∧ a ≤ r + 23 + 3) → I1 a = I a := fun a ha => hs1 a ha
  refine k I2 (fun a ha => ?_) ⟨?_, fun q hq => ?_, ?_, hr2, ?_⟩
  · rw [row a (by omega)]
    simp (disch := omega) only [vpT, nI_leI, nI_ltI, nI_eq, nleT, nleF, nltT, nltF, neqT, neqF, nI_add, pk_mul, subN, divN, nI_clamp, mI1, wrH, wrM1, wrM2, wrowH, wrowM, bI0, bI1, kIi, kVi, kRi, kLi, kIx, kVx, Option.some.injEq, exists_eq_left', true_and, and_true, true_implies, false_implies, implies_true, not_true_eq_false, not_false_eq_true, true_or, or_true, false_or, or_false, forall_eq, iteT, iteF, hR.1, LB_ hR.b, LT_ hR.t, LT_ hR.s]
    exact r1 a (by omega)
  · simp (disch := omega) only [vpT, nI_leI, nI_ltI, nI_eq, nleT, nleF, nltT, nltF, neqT, neqF, nI_add, pk_mul, subN, divN, nI_clamp, mI1, wrH, wrM1, wrM2, wrowH, wrowM, bI0, bI1, kIi, kVi, kRi, kLi, kIx, kVx, Option.some.injEq, exists_eq_left', true_and, and_true, true_implies, false_implies, implies_true, not_true_eq_false, not_false_eq_true, true_or, or_true, false_or, or_false, forall_eq, iteT, iteF, bd, bF, bSo, bRe, bLa, bWe, bHu, bOr, bGa, bSF, bST, bDo, bDS, bDW, hR.1, LB_ hR.b, LT_ hR.t, LT_ hR.s, row, r1]
  · simp (disch := omega) only [vpT, nI_leI, nI_ltI, nI_eq, nleT, nleF, nltT, nltF, neqT, neqF, nI_add, pk_mul, subN, divN, nI_clamp, mI1, wrH, wrM1, wrM2, wrowH, wrowM, bI0, bI1, kIi, kVi, kRi, kLi, kIx, kVx, Option.some.injEq, exists_eq_left', true_and, and_true, true_implies, false_implies, implies_true, not_true_eq_false, not_false_eq_true, true_or, or_true, false_or, or_false, forall_eq, iteT, iteF, bd, bF, bSo, bRe, bLa, bWe, bHu, bOr, bGa, bSF, bST, bDo, bDS, bDW, hR.1, LB_ hR.b, LT_ hR.t, LT_ hR.s, row, r1]
  · rw [hsl]
    simp (disch := omega) only [vpT, nI_leI, nI_ltI, nI_eq, nleT, nleF, nltT, nltF, neqT, neqF, nI_add, pk_mul, subN, divN, nI_clamp, mI1, wrH, wrM1, wrM2, wrowH, wrowM, bI0, bI1, kIi, kVi, kRi, kLi, kIx, kVx, Option.some.injEq, exists_eq_left', true_and, and_true, true_implies, false_implies, implies_true, not_true_eq_false, not_false_eq_true, true_or, or_true, false_or, or_false, forall_eq, iteT, iteF, bd, bF, bSo, bRe, bLa, bWe, bHu, bOr, bGa, bSF, bST, bDo, bDS, bDW, hR.1, LB_ hR.b, LT_ hR.t, LT_ hR.s, row, r1]
    exact ⟨rfl, rfl⟩
  · simp (disch := omega) only [vpT, nI_leI, nI_ltI, nI_eq, nleT, nleF, nltT, nltF, neqT, neqF, nI_add, pk_mul, subN, divN, nI_clamp, mI1, wrH, wrM1, wrM2, wrowH, wrowM, bI0, bI1, kIi, kVi, kRi, kLi, kIx, kVx, Option.some.injEq, exists_eq_left', true_and, and_true, true_implies, false_implies, implies_true, not_true_eq_false, not_false_eq_true, true_or, or_true, false_or, or_false, forall_eq, iteT, iteF, bd, bF, bSo, bRe, bLa, bWe, bHu, bOr, bGa, bSF, bST, bDo, bDS, bDW, hR.1, LB_ hR.b, LT_ hR.t, LT_ hR.s, row, r1]
end RUNWAY4
