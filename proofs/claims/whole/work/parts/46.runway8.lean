/-! The class's runways: by ranks, turned couples. -/
theorem mvd_congr {o o' : Nat → Nat} {a p n k : Nat} (h : ∀ j, j < n → o j = o' j) (ha : a < n) (hp : p < n) (hk : k < n) : mvd o a p k = mvd o' a p k := by
  unfold mvd
  split
  · exact h a ha
  · exact h _ (sk_lt (by split <;> omega))
theorem obr_congr {S : BS} {f n : Nat} : ∀ {m : Nat} {o o' : Nat → Nat}, f + m < n → (∀ j, j < n → o j = o' j) → ∀ j, j < n → obr S f m o j = obr S f m o' j
  | 0, o, o', _, h, j, hj => h j hj
  | m + 1, o, o', hm, h, j, hj => by
    have hl := lbi_le (S := S) (o := o') (f := f) (m := m + 1)
    unfold obr
    rw [lbi_congr (o' := o') (fun j hj => h j (by omega))]
    exact obr_congr (by omega) (fun q hq => mvd_congr h (by omega) (by omega) hq) j hj
theorem lbi_ahd {S S' : BS} (h : ∀ a c, ahd S a c = ahd S' a c) {o : Nat → Nat} {f : Nat} : ∀ {m : Nat}, lbi S o f m = lbi S' o f m
  | 0 => rfl
  | m + 1 => by unfold lbi; rw [lbi_ahd h, h]
/-- behind a move it is still an order of all -/
theorem mvd_inj {o : Nat → Nat} {a p n : Nat} (ha : a < n) (hp : p < n) (h : ∀ i j, i < n → j < n → o i = o j → i = j) : ∀ i j, i < n → j < n → mvd o a p i = mvd o a p j → i = j := by
  intro i j hi hj e
  have key : ∀ q, q < n → ∃ s, s < n ∧ mvd o a p q = o s ∧ (q = p → s = a) ∧ (q < p → s = sk a q) ∧ (p < q → s = sk a (q - 1)) := by
    intro q hq
    rcases Nat.lt_trichotomy q p with h1 | h1 | h1
    · exact ⟨sk a q, sk_lt (by omega), mvd_l h1, fun _ => by omega, fun _ => rfl, fun _ => by omega⟩
    · exact ⟨a, ha, mvd_e h1, fun _ => rfl, fun _ => by omega, fun _ => by omega⟩
    · exact ⟨sk a (q - 1), sk_lt (by omega), mvd_g h1, fun _ => by omega, fun _ => by omega, fun _ => rfl⟩
  obtain ⟨s, hs, es, s1, s2, s3⟩ := key i hi
  obtain ⟨u, hu, eu, u1, u2, u3⟩ := key j hj
  rw [es, eu] at e
  have := h s u hs hu e
  have skne : ∀ q, sk a q ≠ a := fun q => by unfold sk; split <;> omega
  have skin : ∀ q w, sk a q = sk a w → q = w := fun q w => by unfold sk; split <;> split <;> omega
  rcases Nat.lt_trichotomy i p with h1 | h1 | h1 <;> rcases Nat.lt_trichotomy j p with h2 | h2 | h2
  · rw [s2 h1, u2 h2] at this; exact skin _ _ this
  · rw [s2 h1, u1 h2] at this; exact absurd this (skne _)
  · rw [s2 h1, u3 h2] at this; have := skin _ _ this; omega
  · rw [s1 h1, u2 h2] at this; exact absurd this.symm (skne _)
  · omega
  · rw [s1 h1, u3 h2] at this; exact absurd this.symm (skne _)
  · rw [s3 h1, u2 h2] at this; have := skin _ _ this; omega
  · rw [s3 h1, u1 h2] at this; exact absurd this (skne _)
  · rw [s3 h1, u3 h2] at this; have := skin _ _ this; omega
theorem ROW_ord {S : BS} {o : Nat → Nat} {n : Nat} (hn : n ≤ 10) (h : ROW (bOr S) o n) (ho : ∀ j, j < n → o j < n) : ∀ j, j < n → ordN S j = o j := fun j hj => by
  have := ho j hj
  unfold ordN
  rw [h j hj, nI_clamp (by omega)]
theorem BI_ord {S S' : BS} {o : Nat → Nat} {n sn dn : Nat} (h : BI S n sn dn) (e0 : bF S' 0 = bF S 0) (e8 : bF S' 8 = bF S 8) (e14 : bF S' 14 = bF S 14) (eo : bSo S' = bSo S) (ed : bDo S' = bDo S) (hr : ROW (bOr S') o n) (ho : ∀ j, j < n → o j < n) : BI S' n sn dn := by
  unfold BI
  rw [e0, e8, e14, eo, ed]
  exact ⟨h.1, h.2.1, h.2.2.1, h.2.2.2.1, fun k hk => ⟨o k, ho k hk, hr k hk⟩, h.2.2.2.2.2⟩
theorem PI_ord {S : BS} {o : Nat → Nat} {n : Nat} (hn : n ≤ 10) (h : ROW (bOr S) o n) (ho : ∀ j, j < n → o j < n) (hi : ∀ i j, i < n → j < n → o i = o j → i = j) : PI S n := fun i j h1 h2 e => by
  rw [ROW_ord hn h ho i h1, ROW_ord hn h ho j h2] at e
  exact hi i j h1 h2 e
section RUNWAY8
variable {d : Nat} {L : hL} {I : Nat → Nat → Int32} {J : Nat → Nat → Int64} {t : tl} {r b n sn dn : Nat} {F : Int32 → hp → Prop} {G : hp → Prop} {N : Nat → hp → Prop} {X : Nat → hp → Prop}
--facts hR.1, LB_ hR.b, LT_ hR.t, LT_ hR.s
theorem sp_orderByRanks (hR : LR L r) (hI : BI (bd I (r + 2)) n sn dn) (hP : PI (bd I (r + 2)) n) (k : ∀ I2, same I I2 (fun a => a = r + 2 + 6 ∨ tb r a) → ROW (I2 (r + 2 + 6)) (obr (bd I (r + 2)) (frz (bd I (r + 2)) n) (n - 1 - frz (bd I (r + 2)) n) (ordN (bd I (r + 2)))) n → G (L, I2, J, t)) : cal (d + 5) 38 [.ref r] (L, I, J, t) (kV G X) := by
  have hn := hI.1.2
  have hfz := frz_le (S := bd I (r + 2)) (n := n)
  generalize hf : frz (bd I (r + 2)) n = f at k hfz
  refine e38 (t38_0 ?_)
  simp (disch := omega) only [vpT, nI_leI, nI_ltI, nI_eq, nleT, nleF, nltT, nltF, neqT, neqF, nI_add, pk_mul, subN, divN, nI_clamp, mI1, wrH, wrM1, wrM2, wrowH, wrowM, bI0, bI1, kIi, kVi, kRi, kLi, kIx, kVx, Option.some.injEq, exists_eq_left', true_and, and_true, true_implies, false_implies, implies_true, not_true_eq_false, not_false_eq_true, true_or, or_true, false_or, or_false, forall_eq, iteT, iteF, hR.1, LB_ hR.b, LT_ hR.t, LT_ hR.s]
  refine sp_frozen hR hI fun I1 hs1 hT1 => t38_4 ?_
  have hb1 : bd I1 (r + 2) = bd I (r + 2) := hs1.bd (fun a h1 h2 => by omega)
  have i0 : I1 (r + 2) 0 = nI n := by rw [hs1 _ (by omega)]; exact hI.1.1
  rw [hf]
  have hS1 : same I I1 (fun a => a = r + 2 + 6 ∨ tb r a) := hs1.up fun a h => Or.inr h
  have stop : ∀ p I2, (p ≤ f ∨ n = 0) → (n = 0 → p = 0) → ROW (I2 (r + 2 + 6)) (obr (bd I (r + 2)) f (n - 1 - f) (ordN (bd I (r + 2)))) n → same I I2 (fun a => a = r + 2 + 6 ∨ tb r a) → p < 20 → Wp (cal (d + 4)) kc_38 [] (kV G X) (15, [some (.ref r), some (.int (nI f)), some (.int (nI p))], [], (L, I2, J, t)) := by
    intro p I2 h1 h2 h3 h4 h5
    refine t38_15 ?_
    simp (disch := omega) only [vpT, nI_leI, nI_ltI, nI_eq, nleT, nleF, nltT, nltF, neqT, neqF, nI_add, pk_mul, subN, divN, nI_clamp, mI1, wrH, wrM1, wrM2, wrowH, wrowM, bI0, bI1, kIi, kVi, kRi, kLi, kIx, kVx, Option.some.injEq, exists_eq_left', true_and, and_true, true_implies, false_implies, implies_true, not_true_eq_false, not_false_eq_true, true_or, or_true, false_or, or_false, forall_eq, iteT, iteF, hR.1, LB_ hR.b, LT_ hR.t, LT_ hR.s]
    exact k I2 h4 h3
  by_cases hnf : n - 1 ≤ f
  · have e0 : n - 1 - f = 0 := by omega
    have hr1 : ROW (I1 (r + 2 + 6)) (obr (bd I (r + 2)) f (n - 1 - f) (ordN (bd I (r + 2)))) n := by
      rw [e0]
      intro q hq
      rw [hs1 _ (by omega)]
      exact (bi_or hI hq).1
    by_cases hn0 : n = 0
    · subst hn0
      simp (disch := omega) only [vpT, nI_leI, nI_ltI, nI_eq, nleT, nleF, nltT, nltF, neqT, neqF, nI_add, pk_mul, subN, divN, nI_clamp, mI1, wrH, wrM1, wrM2, wrowH, wrowM, bI0, bI1, kIi, kVi, kRi, kLi, kIx, kVx, Option.some.injEq, exists_eq_left', true_and, and_true, true_implies, false_implies, implies_true, not_true_eq_false, not_false_eq_true, true_or, or_true, false_or, or_false, forall_eq, iteT, iteF, hR.1, LB_ hR.b, LT_ hR.t, LT_ hR.s, i0]
      refine t38_15 ?_
      have hm : (nI 0 - nI 1 ≤ nI f) = True := eq_true (by
        have : f = 0 := by omega
        subst this
        decide)
      simp only [hm, true_implies, not_true_eq_false, false_implies, and_true, kVi]
      exact k I1 hS1 hr1
    · simp (disch := omega) only [vpT, nI_leI, nI_ltI, nI_eq, nleT, nleF, nltT, nltF, neqT, neqF, nI_add, pk_mul, subN, divN, nI_clamp, mI1, wrH, wrM1, wrM2, wrowH, wrowM, bI0, bI1, kIi, kVi, kRi, kLi, kIx, kVx, Option.some.injEq, exists_eq_left', true_and, and_true, true_implies, false_implies, implies_true, not_true_eq_false, not_false_eq_true, true_or, or_true, false_or, or_false, forall_eq, iteT, iteF, hR.1, LB_ hR.b, LT_ hR.t, LT_ hR.s, i0]
      exact stop (n - 1) I1 (Or.inl hnf) (by omega) hr1 hS1 (by omega)
  · simp (disch := omega) only [vpT, nI_leI, nI_ltI, nI_eq, nleT, nleF, nltT, nltF, neqT, neqF, nI_add, pk_mul, subN, divN, nI_clamp, mI1, wrH, wrM1, wrM2, wrowH, wrowM, bI0, bI1, kIi, kVi, kRi, kLi, kIx, kVx, Option.some.injEq, exists_eq_left', true_and, and_true, true_implies, false_implies, implies_true, not_true_eq_false, not_false_eq_true, true_or, or_true, false_or, or_false, forall_eq, iteT, iteF, hR.1, LB_ hR.b, LT_ hR.t, LT_ hR.s, i0]
    have main : ∀ m, f + m < n → ∀ I2 o, same I I2 (fun a => a = r + 2 + 6 ∨ tb r a) → ROW (I2 (r + 2 + 6)) o n → (∀ j, j < n → o j < n) → (∀ i j, i < n → j < n → o i = o j → i = j) → (∀ I3, same I I3 (fun a => a = r + 2 + 6 ∨ tb r a) → ROW (I3 (r + 2 + 6)) (obr (bd I (r + 2)) f m o) n → G (L, I3, J, t)) → Wp (cal (d + 4)) kc_38 [] (kV G X) (15, [some (.ref r), some (.int (nI f)), some (.int (nI (f + m)))], [], (L, I2, J, t)) := by
      intro m
      induction m with
      | zero =>
        intro _ I2 o hs hr ho hi kk
        refine t38_15 ?_
        simp (disch := omega) only [vpT, nI_leI, nI_ltI, nI_eq, nleT, nleF, nltT, nltF, neqT, neqF, nI_add, pk_mul, subN, divN, nI_clamp, mI1, wrH, wrM1, wrM2, wrowH, wrowM, bI0, bI1, kIi, kVi, kRi, kLi, kIx, kVx, Option.some.injEq, exists_eq_left', true_and, and_true, true_implies, false_implies, implies_true, not_true_eq_false, not_false_eq_true, true_or, or_true, false_or, or_false, forall_eq, iteT, iteF, hR.1, LB_ hR.b, LT_ hR.t, LT_ hR.s]
        exact kk I2 hs hr
      | succ m ih =>
        intro hm I2 o hs hr ho hi kk
        have e : ∀ a, a ≠ r + 2 + 6 → ¬ (r + 23 < a ∧ a ≤ r + 23 + 3) → I2 a = I a := fun a h1 h2 => hs a (fun q => q.elim h1 h2)
        have hI2 : BI (bd I2 (r + 2)) n sn dn := BI_ord (o := o) hI (congrFun (e _ (by omega) (by omega)) _) (congrFun (e _ (by omega) (by omega)) _) (congrFun (e _ (by omega) (by omega)) _) (e _ (by omega) (by omega)) (e _ (by omega) (by omega)) hr ho
        have hP2 : PI (bd I2 (r + 2)) n := PI_ord hn hr ho hi
        have hoo := ROW_ord (S := bd I2 (r + 2)) hn hr ho
        have hah : ∀ a c, ahd (bd I2 (r + 2)) a c = ahd (bd I (r + 2)) a c := ahd_eq (e (r + 2 + 5) (by omega) (by omega)) (e (r + 2 + 2) (by omega) (by omega))
        have hlb := lbi_le (S := bd I (r + 2)) (o := o) (f := f) (m := m + 1)
        have elb : lbi (bd I2 (r + 2)) (ordN (bd I2 (r + 2))) f (m + 1) = lbi (bd I (r + 2)) o f (m + 1) := by
          rw [lbi_ahd hah]
          exact lbi_congr (fun j hj => hoo j (by omega))
        refine t38_15 ?_
        simp (disch := omega) only [vpT, nI_leI, nI_ltI, nI_eq, nleT, nleF, nltT, nltF, neqT, neqF, nI_add, pk_mul, subN, divN, nI_clamp, mI1, wrH, wrM1, wrM2, wrowH, wrowM, bI0, bI1, kIi, kVi, kRi, kLi, kIx, kVx, Option.some.injEq, exists_eq_left', true_and, and_true, true_implies, false_implies, implies_true, not_true_eq_false, not_false_eq_true, true_or, or_true, false_or, or_false, forall_eq, iteT, iteF, hR.1, LB_ hR.b, LT_ hR.t, LT_ hR.s]
        refine sp_lastByRank (m := m + 1) hR hI2 (by omega) (t38_30 ?_)
        rw [lbr_lbi, elb]
        simp (disch := omega) only [vpT, nI_leI, nI_ltI, nI_eq, nleT, nleF, nltT, nltF, neqT, neqF, nI_add, pk_mul, subN, divN, nI_clamp, mI1, wrH, wrM1, wrM2, wrowH, wrowM, bI0, bI1, kIi, kVi, kRi, kLi, kIx, kVx, Option.some.injEq, exists_eq_left', true_and, and_true, true_implies, false_implies, implies_true, not_true_eq_false, not_false_eq_true, true_or, or_true, false_or, or_false, forall_eq, iteT, iteF, hR.1, LB_ hR.b, LT_ hR.t, LT_ hR.s]
        refine sp_moveTo (n := n) (sn := sn) (dn := dn) (a := lbi (bd I (r + 2)) o f (m + 1)) hR.b hI2 hP2 (by omega) rfl (by omega) fun I3 hs3 hr3 => t38_34 ?_
        simp (disch := omega) only [vpT, nI_leI, nI_ltI, nI_eq, nleT, nleF, nltT, nltF, neqT, neqF, nI_add, pk_mul, subN, divN, nI_clamp, mI1, wrH, wrM1, wrM2, wrowH, wrowM, bI0, bI1, kIi, kVi, kRi, kLi, kIx, kVx, Option.some.injEq, exists_eq_left', true_and, and_true, true_implies, false_implies, implies_true, not_true_eq_false, not_false_eq_true, true_or, or_true, false_or, or_false, forall_eq, iteT, iteF, hR.1, LB_ hR.b, LT_ hR.t, LT_ hR.s, show f + (m + 1) - 1 = f + m by omega]
        refine ih (by omega) I3 (mvd o (lbi (bd I (r + 2)) o f (m + 1)) (f + (m + 1))) (hs.tr (hs3.up fun a h => Or.inl h)) (fun q hq => by rw [hr3 q hq, mvd_congr hoo (by omega) (by omega) hq]) (fun j hj => mvd_lt ho (by omega) (by omega) hj) (mvd_inj (by omega) (by omega) hi) kk
    have := main (n - 1 - f) (by omega) I1 (ordN (bd I (r + 2))) hS1 (fun q hq => by rw [hs1 _ (by omega)]; exact (bi_or hI hq).1) (fun j hj => (bi_or hI hj).2) hP k
    rw [show f + (n - 1 - f) = n - 1 by omega] at this
    exact this
--facts LB_ hB, hn0
theorem sp_turned (hB : LB L b) (hI : BI (bd I b) n sn dn) (k : F (nI (trn (bd I b) (ordN (bd I b)) n)) (L, I, J, t)) : cal (d + 2) 87 [.ref b] (L, I, J, t) (kI F X) := by
  have hn0 : I b 0 = nI n := hI.1.1
  have hn := hI.1.2
  have e6 : ∀ j, j < n → I (b + 6) j = nI (ordN (bd I b) j) := fun j hj => (bi_or hI hj).1
  refine e87 (t87_0 ?_)
  by_cases h0 : n = 0
  · refine t87_4 ?_
    simp (disch := omega) only [vpT, nI_leI, nI_ltI, nI_eq, nleT, nleF, nltT, nltF, neqT, neqF, nI_add, pk_mul, subN, divN, nI_clamp, mI1, wrH, wrM1, wrM2, wrowH, wrowM, bI0, bI1, kIi, kVi, kRi, kLi, kIx, kVx, Option.some.injEq, exists_eq_left', true_and, and_true, true_implies, false_implies, implies_true, not_true_eq_false, not_false_eq_true, true_or, or_true, false_or, or_false, forall_eq, iteT, iteF, LB_ hB, hn0]
    rw [h0] at k
    exact k
  · refine lg (n := n) (fun i l h => ∃ l3, l = [some (.ref b), some (.int (nI (trn (bd I b) (ordN (bd I b)) i))), some (.int (nI i)), l3] ∧ h = (L, I, J, t) ∧ 1 ≤ i) ?_ ?_ (show 1 ≤ n by omega) _ _ ⟨_, rfl, rfl, Nat.le_refl _⟩
    · rintro i hi ih _ _ ⟨l3, rfl, rfl, h1⟩
      refine t87_4 ?_
      simp (disch := omega) only [vpT, nI_leI, nI_ltI, nI_eq, nleT, nleF, nltT, nltF, neqT, neqF, nI_add, pk_mul, subN, divN, nI_clamp, mI1, wrH, wrM1, wrM2, wrowH, wrowM, bI0, bI1, kIi, kVi, kRi, kLi, kIx, kVx, Option.some.injEq, exists_eq_left', true_and, and_true, true_implies, false_implies, implies_true, not_true_eq_false, not_false_eq_true, true_or, or_true, false_or, or_false, forall_eq, iteT, iteF, LB_ hB, hn0]
      have ht := trn_le (S := bd I b) (o := ordN (bd I b)) (p := i)
      have ht2 : i * i ≤ 100 := Nat.mul_le_mul (show i ≤ 10 by omega) (show i ≤ 10 by omega)
      refine lq (n := i) (fun q => [some (.ref b), some (.int (nI (trn (bd I b) (ordN (bd I b)) i + cntB (fun w => ahd (bd I b) (ordN (bd I b) i) (ordN (bd I b) w)) q))), some (.int (nI i)), some (.int (nI q))]) (fun q hq ih2 => t87_14 ?_) (t87_14 ?_)
      · have hc := cntB_le (p := fun w => ahd (bd I b) (ordN (bd I b) i) (ordN (bd I b) w)) (n := q)
        simp (disch := omega) only [vpT, nI_leI, nI_ltI, nI_eq, nleT, nleF, nltT, nltF, neqT, neqF, nI_add, pk_mul, subN, divN, nI_clamp, mI1, wrH, wrM1, wrM2, wrowH, wrowM, bI0, bI1, kIi, kVi, kRi, kLi, kIx, kVx, Option.some.injEq, exists_eq_left', true_and, and_true, true_implies, false_implies, implies_true, not_true_eq_false, not_false_eq_true, true_or, or_true, false_or, or_false, forall_eq, iteT, iteF, LB_ hB, hn0, e6]
        have h2 := (bi_or hI hi).2
        have h3 := (bi_or hI (show q < n by omega)).2
        refine sp_isAhead hB (by omega) (by omega) (t87_35 ?_)
        simp (disch := omega) only [vpT, nI_leI, nI_ltI, nI_eq, nleT, nleF, nltT, nltF, neqT, neqF, nI_add, pk_mul, subN, divN, nI_clamp, mI1, wrH, wrM1, wrM2, wrowH, wrowM, bI0, bI1, kIi, kVi, kRi, kLi, kIx, kVx, Option.some.injEq, exists_eq_left', true_and, and_true, true_implies, false_implies, implies_true, not_true_eq_false, not_false_eq_true, true_or, or_true, false_or, or_false, forall_eq, iteT, iteF, LB_ hB, hn0]
        refine ⟨fun h => ?_, fun h => ?_⟩
        · rw [cntB_f (p := fun w => ahd (bd I b) (ordN (bd I b) i) (ordN (bd I b) w)) h] at ih2; exact ih2
        · rw [cntB_t (p := fun w => ahd (bd I b) (ordN (bd I b) i) (ordN (bd I b) w)) (btf h)] at ih2; exact ih2
      · simp (disch := omega) only [vpT, nI_leI, nI_ltI, nI_eq, nleT, nleF, nltT, nltF, neqT, neqF, nI_add, pk_mul, subN, divN, nI_clamp, mI1, wrH, wrM1, wrM2, wrowH, wrowM, bI0, bI1, kIi, kVi, kRi, kLi, kIx, kVx, Option.some.injEq, exists_eq_left', true_and, and_true, true_implies, false_implies, implies_true, not_true_eq_false, not_false_eq_true, true_or, or_true, false_or, or_false, forall_eq, iteT, iteF, LB_ hB, hn0]
        exact ih _ _ ⟨_, rfl, rfl, by omega⟩
    · rintro _ _ ⟨l3, rfl, rfl, h1⟩
      refine t87_4 ?_
      simp (disch := omega) only [vpT, nI_leI, nI_ltI, nI_eq, nleT, nleF, nltT, nltF, neqT, neqF, nI_add, pk_mul, subN, divN, nI_clamp, mI1, wrH, wrM1, wrM2, wrowH, wrowM, bI0, bI1, kIi, kVi, kRi, kLi, kIx, kVx, Option.some.injEq, exists_eq_left', true_and, and_true, true_implies, false_implies, implies_true, not_true_eq_false, not_false_eq_true, true_or, or_true, false_or, or_false, forall_eq, iteT, iteF, LB_ hB, hn0]
      exact k
end RUNWAY8
