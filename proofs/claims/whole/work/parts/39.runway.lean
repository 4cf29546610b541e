/-! The class's runways. -/
def LR (L : hL) (r : Nat) : Prop :=
  (L.1 r = 5 ∧ L.2.2.1 r 0 = some (r + 2) ∧ L.2.2.1 r 1 = some (r + 15) ∧ L.2.2.1 r 2 = some (r + 23) ∧ L.2.2.1 r 3 = some (r + 1) ∧ L.1 (r + 1) = 20 ∧ L.2.1 (r + 1) = 10 ∧ L.1 (r + 15) = 7 ∧ L.2.2.1 (r + 15) 0 = some (r + 2) ∧ L.2.2.1 (r + 15) 1 = some (r + 19) ∧ L.2.2.1 (r + 15) 2 = some (r + 16) ∧ L.2.2.1 (r + 15) 3 = some (r + 17) ∧ L.2.2.1 (r + 15) 4 = some (r + 18) ∧ L.1 (r + 16) = 20 ∧ L.1 (r + 17) = 20 ∧ L.1 (r + 18) = 20 ∧ L.2.1 (r + 16) = 10 ∧ L.2.1 (r + 17) = 10 ∧ L.2.1 (r + 18) = 10) ∧ LB L (r + 2) ∧ LT L (r + 19) (r + 2) ∧ LT L (r + 23) (r + 2)
theorem LR.b {L : hL} {r : Nat} (h : LR L r) : LB L (r + 2) := h.2.1
theorem LR.s {L : hL} {r : Nat} (h : LR L r) : LT L (r + 19) (r + 2) := h.2.2.1
theorem LR.t {L : hL} {r : Nat} (h : LR L r) : LT L (r + 23) (r + 2) := h.2.2.2
/-- the table's rows -/
abbrev tb (r : Nat) : Nat → Prop := fun a => r + 23 < a ∧ a ≤ r + 23 + 3
def shN (S : BS) : Nat := (bF S 11).toNatClampNeg
def near (S : BS) (n sh c k : Nat) : Bool := decide (k ≤ rk S n c + sh ∧ rk S n c ≤ k + sh)
def alw (S : BS) (n f : Nat) (o : Nat → Nat) : Bool := allB (fun k => if k < f then decide (o k = ordN S k) else near S n (shN S) (o k) k) n
theorem allB_and {p q : Nat → Bool} {f n : Nat} (hf : f ≤ n) (hp : allB p f = true) (hq : ∀ k, f ≤ k → k < n → q k = true) : allB (fun k => if k < f then p k else q k) n = true :=
  allB_iff.mpr fun j hj => by
    by_cases h : j < f
    · simp only [h, if_true]; exact allB_iff.mp hp j h
    · simp only [h, if_false]; exact hq j (by omega) hj
theorem absN {a c sh : Nat} (ha : a < 1000) (hc : c < 1000) (hs : sh < 1000) : ((if nI 0 ≤ nI a - nI c then nI a - nI c else nI 0 - (nI a - nI c)) ≤ nI sh) ↔ (a ≤ c + sh ∧ c ≤ a + sh) := by
  have e1 : (nI a - nI c).toInt = (a : Int) - c := by
    rw [Int32.toInt_sub, nI_toInt (by omega), nI_toInt (by omega)]
    exact Int.bmod_eq_of_le (by omega) (by omega)
  have e2 : (nI 0 - (nI a - nI c)).toInt = (c : Int) - a := by
    rw [Int32.toInt_sub, e1, nI_toInt (by omega)]
    rw [Int.bmod_eq_of_le (by omega) (by omega)]
    omega
  by_cases h : nI 0 ≤ nI a - nI c
  · rw [if_pos h, Int32.le_iff_toInt_le, e1, nI_toInt (by omega)]
    rw [Int32.le_iff_toInt_le, e1, nI_toInt (by omega)] at h
    omega
  · rw [if_neg h, Int32.le_iff_toInt_le, e2, nI_toInt (by omega)]
    rw [Int32.le_iff_toInt_le, e1, nI_toInt (by omega)] at h
    omega
theorem cntB_lt {p : Nat → Bool} {n c : Nat} (hc : c < n) (h : p c = false) : cntB p n < n := by
  have : ∀ n, c < n → cntB p n < n := by
    intro n
    induction n with
    | zero => intro h; omega
    | succ n ih =>
      intro hc
      by_cases e : c = n
      · subst e; rw [cntB_f h]; have := cntB_le (p := p) (n := c); omega
      · have := ih (by omega); unfold cntB; split <;> omega
  exact this n hc
theorem ahd_irr {S : BS} {c : Nat} : ahd S c c = false := by simp [ahd]
theorem rk_lt {S : BS} {n c : Nat} (h : c < n) : rk S n c < n := cntB_lt h ahd_irr
/-- who comes last by rank of the first m + 1 from f on -/
def lbr (S : BS) (o : Nat → Nat) (f : Nat) : Nat → Nat
  | 0 => o f
  | m + 1 => if ahd S (lbr S o f m) (o (f + m + 1)) then o (f + m + 1) else lbr S o f m
theorem lbr_lt {S : BS} {o : Nat → Nat} {f n : Nat} : ∀ {m : Nat}, (∀ j, j ≤ f + m → o j < n) → lbr S o f m < n
  | 0, h => h f (by omega)
  | m + 1, h => by
    unfold lbr
    split
    · exact h _ (by omega)
    · exact lbr_lt fun j hj => h j (by omega)
/-- the one at place a put at place p -/
def mvd (o : Nat → Nat) (a p k : Nat) : Nat := if k = p then o a else o (sk a (if k < p then k else k - 1))
section RUNWAY
variable {d : Nat} {L : hL} {I : Nat → Nat → Int32} {J : Nat → Nat → Int64} {t : tl} {r n sn dn : Nat} {F : Int32 → hp → Prop} {G : hp → Prop} {N : Nat → hp → Prop} {X : Nat → hp → Prop}
--facts hR.1, LB_ hR.b, LT_ hR.t, LT_ hR.s
theorem sp_layPlan (hR : LR L r) (hI : BI (bd I (r + 2)) n sn dn) (k : ∀ I2, same I I2 (tb r) → Tab I2 (r + 23) (bd I (r + 2)) (ordN (bd I (r + 2))) n → N (r + 23) (L, I2, J, t)) : cal (d + 4) 43 [.ref r] (L, I, J, t) (kR N X) := by
  refine e43 (t43_0 ?_)
  simp (disch := omega) only [vpT, nI_leI, nI_ltI, nI_eq, nleT, nleF, nltT, nltF, neqT, neqF, nI_add, pk_mul, subN, divN, nI_clamp, mI1, wrH, wrM1, wrM2, wrowH, wrowM, bI0, bI1, kIi, kVi, kRi, kLi, kIx, kVx, Option.some.injEq, exists_eq_left', true_and, and_true, true_implies, false_implies, implies_true, not_true_eq_false, not_false_eq_true, true_or, or_true, false_or, or_false, forall_eq, iteT, iteF, hR.1, LB_ hR.b, LT_ hR.t, LT_ hR.s]
  refine sp_lay (o := ordN (bd I (r + 2))) hR.t hR.b (by omega) hI (LB_ hR.b).2.2.1.2.2.2.2.2.1 (LB_ hR.b).2.2.2.2.2.2.2.2.1 (by omega) (fun j hj => bi_or hI hj) fun I2 hs hT => t43_14 ?_
  simp (disch := omega) only [vpT, nI_leI, nI_ltI, nI_eq, nleT, nleF, nltT, nltF, neqT, neqF, nI_add, pk_mul, subN, divN, nI_clamp, mI1, wrH, wrM1, wrM2, wrowH, wrowM, bI0, bI1, kIi, kVi, kRi, kLi, kIx, kVx, Option.some.injEq, exists_eq_left', true_and, and_true, true_implies, false_implies, implies_true, not_true_eq_false, not_false_eq_true, true_or, or_true, false_or, or_false, forall_eq, iteT, iteF, hR.1, LB_ hR.b, LT_ hR.t, LT_ hR.s]
  exact k I2 hs hT
theorem sp_frozen (hR : LR L r) (hI : BI (bd I (r + 2)) n sn dn) (k : ∀ I2, same I I2 (tb r) → Tab I2 (r + 23) (bd I (r + 2)) (ordN (bd I (r + 2))) n → F (nI (frz (bd I (r + 2)) n)) (L, I2, J, t)) : cal (d + 4) 16 [.ref r] (L, I, J, t) (kI F X) := by
  refine e16 (t16_0 ?_)
  simp (disch := omega) only [vpT, nI_leI, nI_ltI, nI_eq, nleT, nleF, nltT, nltF, neqT, neqF, nI_add, pk_mul, subN, divN, nI_clamp, mI1, wrH, wrM1, wrM2, wrowH, wrowM, bI0, bI1, kIi, kVi, kRi, kLi, kIx, kVx, Option.some.injEq, exists_eq_left', true_and, and_true, true_implies, false_implies, implies_true, not_true_eq_false, not_false_eq_true, true_or, or_true, false_or, or_false, forall_eq, iteT, iteF, hR.1, LB_ hR.b, LT_ hR.t, LT_ hR.s]
  refine sp_lay (o := ordN (bd I (r + 2))) hR.t hR.b (by omega) hI (LB_ hR.b).2.2.1.2.2.2.2.2.1 (LB_ hR.b).2.2.2.2.2.2.2.2.1 (by omega) (fun j hj => bi_or hI hj) fun I2 hs hT => t16_14 ?_
  have hb : bd I2 (r + 2) = bd I (r + 2) := hs.bd (fun a h1 h2 => by omega)
  have e1 : I2 (r + 2) = I (r + 2) := hs _ (by omega)
  simp (disch := omega) only [vpT, nI_leI, nI_ltI, nI_eq, nleT, nleF, nltT, nltF, neqT, neqF, nI_add, pk_mul, subN, divN, nI_clamp, mI1, wrH, wrM1, wrM2, wrowH, wrowM, bI0, bI1, kIi, kVi, kRi, kLi, kIx, kVx, Option.some.injEq, exists_eq_left', true_and, and_true, true_implies, false_implies, implies_true, not_true_eq_false, not_false_eq_true, true_or, or_true, false_or, or_false, forall_eq, iteT, iteF, hR.1, LB_ hR.b, LT_ hR.t, LT_ hR.s, e1]
  refine sp_dueBy (o := ordN (bd I (r + 2))) hR.t hR.b (by rw [hb]; exact hI) (by rw [hb]; exact hT) (t16_32 ?_)
  simp (disch := omega) only [vpT, nI_leI, nI_ltI, nI_eq, nleT, nleF, nltT, nltF, neqT, neqF, nI_add, pk_mul, subN, divN, nI_clamp, mI1, wrH, wrM1, wrM2, wrowH, wrowM, bI0, bI1, kIi, kVi, kRi, kLi, kIx, kVx, Option.some.injEq, exists_eq_left', true_and, and_true, true_implies, false_implies, implies_true, not_true_eq_false, not_false_eq_true, true_or, or_true, false_or, or_false, forall_eq, iteT, iteF, hR.1, LB_ hR.b, LT_ hR.t, LT_ hR.s]
  rw [hb]
  exact k I2 hs hT
theorem sp_slotOf {c p : Nat} (hR : LR L r) (hI : BI (bd I (r + 2)) n sn dn) (hP : PI (bd I (r + 2)) n) (hp : p < n) (hc : ordN (bd I (r + 2)) p = c) (k : ∀ I2, same I I2 (tb r) → Tab I2 (r + 23) (bd I (r + 2)) (ordN (bd I (r + 2))) n → F (slt (bd I (r + 2)) (ordN (bd I (r + 2))) p) (L, I2, J, t)) : cal (d + 5) 90 [.ref r, .int (nI c)] (L, I, J, t) (kI F X) := by
  have hn := hI.1.2
  refine e90 (t90_0 ?_)
  simp (disch := omega) only [vpT, nI_leI, nI_ltI, nI_eq, nleT, nleF, nltT, nltF, neqT, neqF, nI_add, pk_mul, subN, divN, nI_clamp, mI1, wrH, wrM1, wrM2, wrowH, wrowM, bI0, bI1, kIi, kVi, kRi, kLi, kIx, kVx, Option.some.injEq, exists_eq_left', true_and, and_true, true_implies, false_implies, implies_true, not_true_eq_false, not_false_eq_true, true_or, or_true, false_or, or_false, forall_eq, iteT, iteF, hR.1, LB_ hR.b, LT_ hR.t, LT_ hR.s]
  refine sp_layPlan hR hI fun I2 hs hT => t90_4 ?_
  have hb : bd I2 (r + 2) = bd I (r + 2) := hs.bd (fun a h1 h2 => by omega)
  simp (disch := omega) only [vpT, nI_leI, nI_ltI, nI_eq, nleT, nleF, nltT, nltF, neqT, neqF, nI_add, pk_mul, subN, divN, nI_clamp, mI1, wrH, wrM1, wrM2, wrowH, wrowM, bI0, bI1, kIi, kVi, kRi, kLi, kIx, kVx, Option.some.injEq, exists_eq_left', true_and, and_true, true_implies, false_implies, implies_true, not_true_eq_false, not_false_eq_true, true_or, or_true, false_or, or_false, forall_eq, iteT, iteF, hR.1, LB_ hR.b, LT_ hR.t, LT_ hR.s]
  refine sp_placeOf (p := p) hR.b (by rw [hb]; exact hI) (by rw [hb]; exact hP) hp (by rw [hb]; exact hc) (t90_15 ?_)
  simp (disch := omega) only [vpT, nI_leI, nI_ltI, nI_eq, nleT, nleF, nltT, nltF, neqT, neqF, nI_add, pk_mul, subN, divN, nI_clamp, mI1, wrH, wrM1, wrM2, wrowH, wrowM, bI0, bI1, kIi, kVi, kRi, kLi, kIx, kVx, Option.some.injEq, exists_eq_left', true_and, and_true, true_implies, false_implies, implies_true, not_true_eq_false, not_false_eq_true, true_or, or_true, false_or, or_false, forall_eq, iteT, iteF, hR.1, LB_ hR.b, LT_ hR.t, LT_ hR.s, (hT.1 p hp).2]
  exact k I2 hs hT
theorem sp_isAllowed {a1 f sh : Nat} {o : Nat → Nat} (hR : LR L r) (hI : BI (bd I (r + 2)) n sn dn) (hsh : bF (bd I (r + 2)) 11 = nI sh) (hs3 : sh ≤ 3) (hf : f ≤ n) (ha : L.1 a1 = 20) (hl : L.2.1 a1 = 10) (ho : ∀ j, j < n → I a1 j = nI (o j) ∧ o j < n) (k : F (bI (alw (bd I (r + 2)) n f o)) (L, I, J, t)) : cal (d + 3) 51 [.ref r, .ref a1, .int (nI f)] (L, I, J, t) (kI F X) := by
  have hn := hI.1.2
  have hn0 : I (r + 2) 0 = nI n := hI.1.1
  have hs0 : I (r + 2) 11 = nI sh := hsh
  have hsN : shN (bd I (r + 2)) = sh := by unfold shN; rw [hsh, nI_clamp (by omega)]
  have hbe : ∀ j, j < n → (decide (I a1 j = bOr (bd I (r + 2)) j) = decide (o j = ordN (bd I (r + 2)) j)) := fun j hj => by
    rw [(ho j hj).1, (bi_or hI hj).1]
    have h1 := (ho j hj).2
    have h2 := (bi_or hI hj).2
    rw [decide_eq_decide, nI_eq (by omega) (by omega)]
  refine e51 (t51_0 ?_)
  simp (disch := omega) only [vpT, nI_leI, nI_ltI, nI_eq, nleT, nleF, nltT, nltF, neqT, neqF, nI_add, pk_mul, subN, divN, nI_clamp, mI1, wrH, wrM1, wrM2, wrowH, wrowM, bI0, bI1, kIi, kVi, kRi, kLi, kIx, kVx, Option.some.injEq, exists_eq_left', true_and, and_true, true_implies, false_implies, implies_true, not_true_eq_false, not_false_eq_true, true_or, or_true, false_or, or_false, forall_eq, iteT, iteF, hR.1, LB_ hR.b, LT_ hR.t, LT_ hR.s]
  refine sp_beginsAlike hR.b ha hl (by omega) (t51_9 ?_)
  simp (disch := omega) only [vpT, nI_leI, nI_ltI, nI_eq, nleT, nleF, nltT, nltF, neqT, neqF, nI_add, pk_mul, subN, divN, nI_clamp, mI1, wrH, wrM1, wrM2, wrowH, wrowM, bI0, bI1, kIi, kVi, kRi, kLi, kIx, kVx, Option.some.injEq, exists_eq_left', true_and, and_true, true_implies, false_implies, implies_true, not_true_eq_false, not_false_eq_true, true_or, or_true, false_or, or_false, forall_eq, iteT, iteF, hR.1, LB_ hR.b, LT_ hR.t, LT_ hR.s]
  rw [allB_congr (fun j hj => hbe j (by omega))]
  refine ⟨fun h => ?_, fun h => ?_⟩
  · have h' : allB (fun j => decide (o j = ordN (bd I (r + 2)) j)) f = true := by simpa using h
    refine lqF (i0 := f) (n := n) hf (fun i => ∀ k, f ≤ k → k < i → near (bd I (r + 2)) n sh (o k) k = true) (fun i => [some (.ref r), some (.ref a1), some (.int (nI f)), some (.int (nI i))]) (fun k h1 h2 => by omega) (fun i hfi hi hd ih => t51_16 ?_) (fun hd => t51_16 ?_)
    · simp (disch := omega) only [vpT, nI_leI, nI_ltI, nI_eq, nleT, nleF, nltT, nltF, neqT, neqF, nI_add, pk_mul, subN, divN, nI_clamp, mI1, wrH, wrM1, wrM2, wrowH, wrowM, bI0, bI1, kIi, kVi, kRi, kLi, kIx, kVx, Option.some.injEq, exists_eq_left', true_and, and_true, true_implies, false_implies, implies_true, not_true_eq_false, not_false_eq_true, true_or, or_true, false_or, or_false, forall_eq, iteT, iteF, hR.1, LB_ hR.b, LT_ hR.t, LT_ hR.s, hn0, ha, hl, (ho i hi).1]
      refine sp_rankOf hR.b hI (ho i hi).2 (t51_38 ?_)
      have hrk := rk_lt (S := bd I (r + 2)) (ho i hi).2
      simp (disch := omega) only [absN, hs0, hR.1, LB_ hR.b, Option.some.injEq, exists_eq_left', true_and, and_true, nI_add]
      refine ⟨fun h => ih fun k h1 h2 => ?_, fun h => ?_⟩
      · by_cases e : k = i
        · rw [e]; exact decide_eq_true h
        · exact hd k h1 (by omega)
      · rw [show alw (bd I (r + 2)) n f o = false from allB_f hi (by
          rw [if_neg (by omega), hsN]
          exact decide_eq_false h)] at k
        exact k
    · simp (disch := omega) only [vpT, nI_leI, nI_ltI, nI_eq, nleT, nleF, nltT, nltF, neqT, neqF, nI_add, pk_mul, subN, divN, nI_clamp, mI1, wrH, wrM1, wrM2, wrowH, wrowM, bI0, bI1, kIi, kVi, kRi, kLi, kIx, kVx, Option.some.injEq, exists_eq_left', true_and, and_true, true_implies, false_implies, implies_true, not_true_eq_false, not_false_eq_true, true_or, or_true, false_or, or_false, forall_eq, iteT, iteF, hR.1, LB_ hR.b, LT_ hR.t, LT_ hR.s, hn0]
      rw [show alw (bd I (r + 2)) n f o = true from allB_and hf h' (by rw [hsN]; exact hd)] at k
      exact k
  · rw [show alw (bd I (r + 2)) n f o = false by
      cases e : alw (bd I (r + 2)) n f o with
      | false => rfl
      | true =>
        have h2 := allB_iff.mp e
        have h3 : allB (fun j => decide (o j = ordN (bd I (r + 2)) j)) f = true := allB_iff.mpr fun j hj => by
          have := h2 j (by omega)
          rw [if_pos hj] at this
          exact this
        rw [h3] at h
        cases h] at k
    exact k
theorem sp_lastByRank {f m : Nat} (hR : LR L r) (hI : BI (bd I (r + 2)) n sn dn) (hm : f + m < n) (k : F (nI (lbr (bd I (r + 2)) (ordN (bd I (r + 2))) f m)) (L, I, J, t)) : cal (d + 2) 39 [.ref r, .int (nI f), .int (nI (f + m))] (L, I, J, t) (kI F X) := by
  have hn := hI.1.2
  have e6 : ∀ j, j < n → I (r + 2 + 6) j = nI (ordN (bd I (r + 2)) j) := fun j hj => (bi_or hI hj).1
  have el : ∀ j, j ≤ f + m → ordN (bd I (r + 2)) j < n := fun j hj => (bi_or hI (by omega)).2
  refine e39 (t39_0 ?_)
  simp (disch := omega) only [vpT, nI_leI, nI_ltI, nI_eq, nleT, nleF, nltT, nltF, neqT, neqF, nI_add, pk_mul, subN, divN, nI_clamp, mI1, wrH, wrM1, wrM2, wrowH, wrowM, bI0, bI1, kIi, kVi, kRi, kLi, kIx, kVx, Option.some.injEq, exists_eq_left', true_and, and_true, true_implies, false_implies, implies_true, not_true_eq_false, not_false_eq_true, true_or, or_true, false_or, or_false, forall_eq, iteT, iteF, hR.1, LB_ hR.b, LT_ hR.t, LT_ hR.s, e6]
  refine lq (n := m) (fun i => [some (.ref r), some (.int (nI f)), some (.int (nI (f + m))), some (.int (nI (lbr (bd I (r + 2)) (ordN (bd I (r + 2))) f i))), some (.int (nI (f + 1 + i)))]) (fun i hi ih => t39_15 ?_) (t39_15 ?_)
  · simp (disch := omega) only [vpT, nI_leI, nI_ltI, nI_eq, nleT, nleF, nltT, nltF, neqT, neqF, nI_add, pk_mul, subN, divN, nI_clamp, mI1, wrH, wrM1, wrM2, wrowH, wrowM, bI0, bI1, kIi, kVi, kRi, kLi, kIx, kVx, Option.some.injEq, exists_eq_left', true_and, and_true, true_implies, false_implies, implies_true, not_true_eq_false, not_false_eq_true, true_or, or_true, false_or, or_false, forall_eq, iteT, iteF, hR.1, LB_ hR.b, LT_ hR.t, LT_ hR.s, e6]
    have h1 := lbr_lt (S := bd I (r + 2)) (o := ordN (bd I (r + 2))) (f := f) (n := n) (m := i) (fun j hj => el j (by omega))
    have h2 := el (f + 1 + i) (by omega)
    refine sp_isAhead hR.b (by omega) (by omega) (t39_39 ?_)
    simp (disch := omega) only [vpT, nI_leI, nI_ltI, nI_eq, nleT, nleF, nltT, nltF, neqT, neqF, nI_add, pk_mul, subN, divN, nI_clamp, mI1, wrH, wrM1, wrM2, wrowH, wrowM, bI0, bI1, kIi, kVi, kRi, kLi, kIx, kVx, Option.some.injEq, exists_eq_left', true_and, and_true, true_implies, false_implies, implies_true, not_true_eq_false, not_false_eq_true, true_or, or_true, false_or, or_false, forall_eq, iteT, iteF, hR.1, LB_ hR.b, LT_ hR.t, LT_ hR.s, e6]
    rw [show f + 1 + (i + 1) = f + 1 + i + 1 by omega, lbr, show f + i + 1 = f + 1 + i by omega] at ih
    refine ⟨fun h => ?_, fun h => ?_⟩
    · rw [h] at ih; exact ih
    · rw [if_pos (by simpa using h)] at ih; exact ih
  · simp (disch := omega) only [vpT, nI_leI, nI_ltI, nI_eq, nleT, nleF, nltT, nltF, neqT, neqF, nI_add, pk_mul, subN, divN, nI_clamp, mI1, wrH, wrM1, wrM2, wrowH, wrowM, bI0, bI1, kIi, kVi, kRi, kLi, kIx, kVx, Option.some.injEq, exists_eq_left', true_and, and_true, true_implies, false_implies, implies_true, not_true_eq_false, not_false_eq_true, true_or, or_true, false_or, or_false, forall_eq, iteT, iteF, hR.1, LB_ hR.b, LT_ hR.t, LT_ hR.s]
    exact k
end RUNWAY
