/-! The class's runways: time goes on, held by, waits, holes. -/
def anyB (p : Nat → Bool) : Nat → Bool
  | 0 => false
  | k + 1 => anyB p k || p k
theorem anyB_iff {p : Nat → Bool} : ∀ {n : Nat}, anyB p n = true ↔ ∃ j, j < n ∧ p j = true
  | 0 => ⟨fun h => Bool.noConfusion h, fun ⟨j, h, _⟩ => absurd h (Nat.not_lt_zero _)⟩
  | n + 1 => by
    unfold anyB
    rw [Bool.or_eq_true, anyB_iff]
    exact ⟨fun h => h.elim (fun ⟨j, h1, h2⟩ => ⟨j, by omega, h2⟩) (fun h => ⟨n, by omega, h⟩), fun ⟨j, h1, h2⟩ => by
      by_cases e : j = n
      · subst e; exact Or.inr h2
      · exact Or.inl ⟨j, by omega, h2⟩⟩
/-- the last of the first k that is so -/
def lst1 (p : Nat → Bool) (o : Nat → Nat) : Nat → Int32
  | 0 => -1
  | k + 1 => if p k then nI (o k) else lst1 p o k
def hbD (S : BS) (z : Nat) (s : Int32) (i : Nat) : Bool := decide (bDS S i + bGa S ((bDo S i).toNatClampNeg * 8 + z) = s)
def hbP (S : BS) (o : Nat → Nat) (z : Nat) (s : Int32) (i : Nat) : Bool := decide (slt S o i + bGa S ((bSo S (o i)).toNatClampNeg * 8 + z) = s)
/-- held by: of the one at place p -/
def hby (S : BS) (o : Nat → Nat) (dn p : Nat) : Int32 :=
  if slt S o p = bRe S (o p) ∨ slt S o p = bF S 13 then -2 else if opn S (slt S o p - nI 1) = slt S o p - nI 1 then (if anyB (hbD S (bSo S (o p)).toNatClampNeg (slt S o p)) dn then -4 else lst1 (hbP S o (bSo S (o p)).toNatClampNeg (slt S o p)) o p) else -3
/-- waits together, the greatest one -/
def wts (S : BS) (o : Nat → Nat) (y : Int32) : Nat → Int32
  | 0 => nI 0
  | k + 1 => if isof S y (o k) then wts S o y k + (slt S o k - bRe S (o k)) else wts S o y k
def lgw (S : BS) (o : Nat → Nat) (y : Int32) : Nat → Int32
  | 0 => nI 0
  | k + 1 => if isof S y (o k) then mx (lgw S o y k) (slt S o k - bRe S (o k)) else lgw S o y k
/-- pushed by one of sort z with slot s -/
def pby (S : BS) (z : Nat) (s : Int32) (y : Nat) (x : Int32) : Int32 := if x < s then (if s < x + bGa S (y * 8 + z) then s else x) else mx x (s + bGa S (z * 8 + y))
def pshD (S : BS) (y : Nat) (x : Int32) : Nat → Int32
  | 0 => opn S x
  | i + 1 => pby S (bDo S i).toNatClampNeg (bDS S i) y (pshD S y x i)
def pshP (S : BS) (o : Nat → Nat) (y dn : Nat) (x : Int32) : Nat → Int32
  | 0 => pshD S y x dn
  | i + 1 => pby S (bSo S (o i)).toNatClampNeg (slt S o i) y (pshP S o y dn x i)
/-- the hole: so many steps from a time on -/
def hol (f : Int32 → Int32) : Nat → Int32 → Int32
  | 0, _ => -1
  | m + 1, x => if nI 1999 < x then -1 else if f x = x then x else hol f m (f x)
section RUNWAY5
variable {d : Nat} {L : hL} {I : Nat → Nat → Int32} {J : Nat → Nat → Int64} {t : tl} {r b n sn dn : Nat} {F : Int32 → hp → Prop} {G : hp → Prop} {N : Nat → hp → Prop} {X : Nat → hp → Prop}
--facts LB_ hB
theorem sp_finishFirst {c : Nat} {x : Int32} (hB : LB L b) (hI : BI (bd I b) n sn dn) (hP : PI (bd I b) n) (h0 : 0 < n) (hc : ordN (bd I b) 0 = c) (k : ∀ I2 T, same I I2 (fun a => b ≤ a ∧ a ≤ b + 12) → DnA (bd I b) T dn (mn20 (dn + 1)) (bSo (bd I b) c) x (x - bRe (bd I b) c) → Rmv T (bd I2 b) n c 0 → G (L, I2, J, t)) : cal (d + 3) 136 [.ref b, .int x] (L, I, J, t) (kV G X) := by
  have hn := hI.1.2
  have hd20 := hI.2.2.1.2
  have hd0 : I b 14 = nI dn := hI.2.2.1.1
  have hcn : c < n := by rw [← hc]; exact (bi_or hI h0).2
  have eo : I (b + 6) 0 = nI c := by rw [← hc]; exact (bi_or hI h0).1
  obtain ⟨z, hz, ez⟩ := hI.2.2.2.1 c hcn
  have fin : ∀ I3, same I I3 (fun a => b ≤ a ∧ a ≤ b + 12) → DnA (bd I b) (bd I3 b) dn (mn20 (dn + 1)) (bSo (bd I b) c) x (x - bRe (bd I b) c) → cal (d + 2) 105 [.ref b, .int (nI c)] (L, I3, J, t) (kV (fun h2 => Wp (cal (d + 2)) kc_136 [] (kV G X) (119, [some (.ref b), some (.int x), some (.int (nI c))], [], h2)) (fun e h2 => kV G X (.inr e) h2)) := by
    intro I3 hs3 hD
    have hI3 := DnA_BI hI hD hz ez
    have ho : ordN (bd I3 b) = ordN (bd I b) := by unfold ordN; rw [hD.2.1.2.2.2.2.2.1]
    refine sp_removeCraft (p := 0) hB hI3 (DnA_PI hP hD) h0 (by rw [ho]; exact hc) fun I4 hs4 hr4 => t136_119 ?_
    simp (disch := omega) only [vpT, nI_leI, nI_ltI, nI_eq, nleT, nleF, nltT, nltF, neqT, neqF, nI_add, pk_mul, subN, divN, nI_clamp, mI1, wrH, wrM1, wrM2, wrowH, wrowM, bI0, bI1, kIi, kVi, kRi, kLi, kIx, kVx, Option.some.injEq, exists_eq_left', true_and, and_true, true_implies, false_implies, implies_true, not_true_eq_false, not_false_eq_true, true_or, or_true, false_or, or_false, forall_eq, iteT, iteF, LB_ hB]
    exact k I4 (bd I3 b) (hs3.tr hs4) hD hr4
  refine e136 (t136_0 ?_)
  by_cases h : dn < 20
  · simp (disch := omega) only [vpT, nI_leI, nI_ltI, nI_eq, nleT, nleF, nltT, nltF, neqT, neqF, nI_add, pk_mul, subN, divN, nI_clamp, mI1, wrH, wrM1, wrM2, wrowH, wrowM, bI0, bI1, kIi, kVi, kRi, kLi, kIx, kVx, Option.some.injEq, exists_eq_left', true_and, and_true, true_implies, false_implies, implies_true, not_true_eq_false, not_false_eq_true, true_or, or_true, false_or, or_false, forall_eq, iteT, iteF, LB_ hB, hd0, eo]
    refine fin _ (fun a ha => ?_) ⟨⟨?_, fun j hj => ?_⟩, ?_, ?_, fun i hi => ?_⟩
    · simp (disch := omega) only [vpT, nI_leI, nI_ltI, nI_eq, nleT, nleF, nltT, nltF, neqT, neqF, nI_add, pk_mul, subN, divN, nI_clamp, mI1, wrH, wrM1, wrM2, wrowH, wrowM, bI0, bI1, kIi, kVi, kRi, kLi, kIx, kVx, Option.some.injEq, exists_eq_left', true_and, and_true, true_implies, false_implies, implies_true, not_true_eq_false, not_false_eq_true, true_or, or_true, false_or, or_false, forall_eq, iteT, iteF, LB_ hB]
    · unfold mn20
      simp (disch := omega) only [vpT, nI_leI, nI_ltI, nI_eq, nleT, nleF, nltT, nltF, neqT, neqF, nI_add, pk_mul, subN, divN, nI_clamp, mI1, wrH, wrM1, wrM2, wrowH, wrowM, bI0, bI1, kIi, kVi, kRi, kLi, kIx, kVx, Option.some.injEq, exists_eq_left', true_and, and_true, true_implies, false_implies, implies_true, not_true_eq_false, not_false_eq_true, true_or, or_true, false_or, or_false, forall_eq, iteT, iteF, bd, bF, bSo, bRe, bLa, bWe, bHu, bOr, bGa, bSF, bST, bDo, bDS, bDW, LB_ hB, show min (dn + 1) 20 = dn + 1 by omega]
    · simp (disch := omega) only [vpT, nI_leI, nI_ltI, nI_eq, nleT, nleF, nltT, nltF, neqT, neqF, nI_add, pk_mul, subN, divN, nI_clamp, mI1, wrH, wrM1, wrM2, wrowH, wrowM, bI0, bI1, kIi, kVi, kRi, kLi, kIx, kVx, Option.some.injEq, exists_eq_left', true_and, and_true, true_implies, false_implies, implies_true, not_true_eq_false, not_false_eq_true, true_or, or_true, false_or, or_false, forall_eq, iteT, iteF, bd, bF, bSo, bRe, bLa, bWe, bHu, bOr, bGa, bSF, bST, bDo, bDS, bDW, LB_ hB]
    · simp (disch := omega) only [vpT, nI_leI, nI_ltI, nI_eq, nleT, nleF, nltT, nltF, neqT, neqF, nI_add, pk_mul, subN, divN, nI_clamp, mI1, wrH, wrM1, wrM2, wrowH, wrowM, bI0, bI1, kIi, kVi, kRi, kLi, kIx, kVx, Option.some.injEq, exists_eq_left', true_and, and_true, true_implies, false_implies, implies_true, not_true_eq_false, not_false_eq_true, true_or, or_true, false_or, or_false, forall_eq, iteT, iteF, bd, bF, bSo, bRe, bLa, bWe, bHu, bOr, bGa, bSF, bST, bDo, bDS, bDW, LB_ hB]
    · unfold mn20
      simp (disch := omega) only [vpT, nI_leI, nI_ltI, nI_eq, nleT, nleF, nltT, nltF, neqT, neqF, nI_add, pk_mul, subN, divN, nI_clamp, mI1, wrH, wrM1, wrM2, wrowH, wrowM, bI0, bI1, kIi, kVi, kRi, kLi, kIx, kVx, Option.some.injEq, exists_eq_left', true_and, and_true, true_implies, false_implies, implies_true, not_true_eq_false, not_false_eq_true, true_or, or_true, false_or, or_false, forall_eq, iteT, iteF, bd, bF, bSo, bRe, bLa, bWe, bHu, bOr, bGa, bSF, bST, bDo, bDS, bDW, LB_ hB, show min (dn + 1) 20 = dn + 1 by omega]
    · unfold mn20 at hi ⊢
      rw [show min (dn + 1) 20 = dn + 1 by omega] at hi ⊢
      rw [show dn + 1 - 1 - (i + 1) = dn - 1 - i by omega]
      simp (disch := omega) only [vpT, nI_leI, nI_ltI, nI_eq, nleT, nleF, nltT, nltF, neqT, neqF, nI_add, pk_mul, subN, divN, nI_clamp, mI1, wrH, wrM1, wrM2, wrowH, wrowM, bI0, bI1, kIi, kVi, kRi, kLi, kIx, kVx, Option.some.injEq, exists_eq_left', true_and, and_true, true_implies, false_implies, implies_true, not_true_eq_false, not_false_eq_true, true_or, or_true, false_or, or_false, forall_eq, iteT, iteF, bd, bF, bSo, bRe, bLa, bWe, bHu, bOr, bGa, bSF, bST, bDo, bDS, bDW, LB_ hB]
  · have e20 : dn = 20 := by omega
    subst e20
    simp (disch := omega) only [vpT, nI_leI, nI_ltI, nI_eq, nleT, nleF, nltT, nltF, neqT, neqF, nI_add, pk_mul, subN, divN, nI_clamp, mI1, wrH, wrM1, wrM2, wrowH, wrowM, bI0, bI1, kIi, kVi, kRi, kLi, kIx, kVx, Option.some.injEq, exists_eq_left', true_and, and_true, true_implies, false_implies, implies_true, not_true_eq_false, not_false_eq_true, true_or, or_true, false_or, or_false, forall_eq, iteT, iteF, LB_ hB, hd0]
    refine sp_takeOut (N := 20) (LB_ hB).2.2.1.2.2.2.2.2.2.2.2.2.1 (LB_ hB).2.2.2.2.2.2.2.2.2.2.2.2.1 (by decide) (by decide) (by decide) (t136_21 ?_)
    simp (disch := omega) only [vpT, nI_leI, nI_ltI, nI_eq, nleT, nleF, nltT, nltF, neqT, neqF, nI_add, pk_mul, subN, divN, nI_clamp, mI1, wrH, wrM1, wrM2, wrowH, wrowM, bI0, bI1, kIi, kVi, kRi, kLi, kIx, kVx, Option.some.injEq, exists_eq_left', true_and, and_true, true_implies, false_implies, implies_true, not_true_eq_false, not_false_eq_true, true_or, or_true, false_or, or_false, forall_eq, iteT, iteF, LB_ hB, hd0]
    refine sp_takeOut (N := 20) (LB_ hB).2.2.1.2.2.2.2.2.2.2.2.2.2.1 (LB_ hB).2.2.2.2.2.2.2.2.2.2.2.2.2.1 (by decide) (by decide) (by decide) (t136_33 ?_)
    simp (disch := omega) only [vpT, nI_leI, nI_ltI, nI_eq, nleT, nleF, nltT, nltF, neqT, neqF, nI_add, pk_mul, subN, divN, nI_clamp, mI1, wrH, wrM1, wrM2, wrowH, wrowM, bI0, bI1, kIi, kVi, kRi, kLi, kIx, kVx, Option.some.injEq, exists_eq_left', true_and, and_true, true_implies, false_implies, implies_true, not_true_eq_false, not_false_eq_true, true_or, or_true, false_or, or_false, forall_eq, iteT, iteF, LB_ hB, hd0]
    refine sp_takeOut (N := 20) (LB_ hB).2.2.1.2.2.2.2.2.2.2.2.2.2.2 (LB_ hB).2.2.2.2.2.2.2.2.2.2.2.2.2.2 (by decide) (by decide) (by decide) (t136_45 ?_)
    simp (disch := omega) only [vpT, nI_leI, nI_ltI, nI_eq, nleT, nleF, nltT, nltF, neqT, neqF, nI_add, pk_mul, subN, divN, nI_clamp, mI1, wrH, wrM1, wrM2, wrowH, wrowM, bI0, bI1, kIi, kVi, kRi, kLi, kIx, kVx, Option.some.injEq, exists_eq_left', true_and, and_true, true_implies, false_implies, implies_true, not_true_eq_false, not_false_eq_true, true_or, or_true, false_or, or_false, forall_eq, iteT, iteF, LB_ hB, hd0, eo]
    refine fin _ (fun a ha => ?_) ⟨⟨?_, fun j hj => ?_⟩, ?_, ?_, fun i hi => ?_⟩
    · simp (disch := omega) only [vpT, nI_leI, nI_ltI, nI_eq, nleT, nleF, nltT, nltF, neqT, neqF, nI_add, pk_mul, subN, divN, nI_clamp, mI1, wrH, wrM1, wrM2, wrowH, wrowM, bI0, bI1, kIi, kVi, kRi, kLi, kIx, kVx, Option.some.injEq, exists_eq_left', true_and, and_true, true_implies, false_implies, implies_true, not_true_eq_false, not_false_eq_true, true_or, or_true, false_or, or_false, forall_eq, iteT, iteF, LB_ hB]
    · simp (disch := omega) only [vpT, nI_leI, nI_ltI, nI_eq, nleT, nleF, nltT, nltF, neqT, neqF, nI_add, pk_mul, subN, divN, nI_clamp, mI1, wrH, wrM1, wrM2, wrowH, wrowM, bI0, bI1, kIi, kVi, kRi, kLi, kIx, kVx, Option.some.injEq, exists_eq_left', true_and, and_true, true_implies, false_implies, implies_true, not_true_eq_false, not_false_eq_true, true_or, or_true, false_or, or_false, forall_eq, iteT, iteF, bd, bF, bSo, bRe, bLa, bWe, bHu, bOr, bGa, bSF, bST, bDo, bDS, bDW, LB_ hB, show mn20 (20 + 1) = 20 from rfl]
    · simp (disch := omega) only [vpT, nI_leI, nI_ltI, nI_eq, nleT, nleF, nltT, nltF, neqT, neqF, nI_add, pk_mul, subN, divN, nI_clamp, mI1, wrH, wrM1, wrM2, wrowH, wrowM, bI0, bI1, kIi, kVi, kRi, kLi, kIx, kVx, Option.some.injEq, exists_eq_left', true_and, and_true, true_implies, false_implies, implies_true, not_true_eq_false, not_false_eq_true, true_or, or_true, false_or, or_false, forall_eq, iteT, iteF, bd, bF, bSo, bRe, bLa, bWe, bHu, bOr, bGa, bSF, bST, bDo, bDS, bDW, LB_ hB]
    · simp (disch := omega) only [vpT, nI_leI, nI_ltI, nI_eq, nleT, nleF, nltT, nltF, neqT, neqF, nI_add, pk_mul, subN, divN, nI_clamp, mI1, wrH, wrM1, wrM2, wrowH, wrowM, bI0, bI1, kIi, kVi, kRi, kLi, kIx, kVx, Option.some.injEq, exists_eq_left', true_and, and_true, true_implies, false_implies, implies_true, not_true_eq_false, not_false_eq_true, true_or, or_true, false_or, or_false, forall_eq, iteT, iteF, bd, bF, bSo, bRe, bLa, bWe, bHu, bOr, bGa, bSF, bST, bDo, bDS, bDW, LB_ hB]
    · simp (disch := omega) only [vpT, nI_leI, nI_ltI, nI_eq, nleT, nleF, nltT, nltF, neqT, neqF, nI_add, pk_mul, subN, divN, nI_clamp, mI1, wrH, wrM1, wrM2, wrowH, wrowM, bI0, bI1, kIi, kVi, kRi, kLi, kIx, kVx, Option.some.injEq, exists_eq_left', true_and, and_true, true_implies, false_implies, implies_true, not_true_eq_false, not_false_eq_true, true_or, or_true, false_or, or_false, forall_eq, iteT, iteF, bd, bF, bSo, bRe, bLa, bWe, bHu, bOr, bGa, bSF, bST, bDo, bDS, bDW, LB_ hB, show mn20 (20 + 1) = 20 from rfl]
    · rw [show mn20 (20 + 1) = 20 from rfl] at hi ⊢
      simp (disch := omega) only [vpT, nI_leI, nI_ltI, nI_eq, nleT, nleF, nltT, nltF, neqT, neqF, nI_add, pk_mul, subN, divN, nI_clamp, mI1, wrH, wrM1, wrM2, wrowH, wrowM, bI0, bI1, kIi, kVi, kRi, kLi, kIx, kVx, Option.some.injEq, exists_eq_left', true_and, and_true, true_implies, false_implies, implies_true, not_true_eq_false, not_false_eq_true, true_or, or_true, false_or, or_false, forall_eq, iteT, iteF, bd, bF, bSo, bRe, bLa, bWe, bHu, bOr, bGa, bSF, bST, bDo, bDS, bDW, LB_ hB, rem1_sk, sk_g, show 20 - 1 - (i + 1) + 1 = 20 - 1 - i by omega]
--facts hR.1, LB_ hR.b, LT_ hR.t, LT_ hR.s
theorem sp_passTime {x : Int32} (hR : LR L r) (hI : BI (bd I (r + 2)) n sn dn) (hP : PI (bd I (r + 2)) n) (k : ∀ I2 S1, same I I2 (fun a => r + 2 ≤ a ∧ a ≤ r + 2 + 12 ∨ tb r a) → Pss (slt (bd I (r + 2)) (ordN (bd I (r + 2)))) n dn (due (slt (bd I (r + 2)) (ordN (bd I (r + 2)))) x n 0) (bd I (r + 2)) S1 → bd I2 (r + 2) = (fun j => if j = 13 then x else bF S1 j, S1.2) → F (nI (due (slt (bd I (r + 2)) (ordN (bd I (r + 2)))) x n 0)) (L, I2, J, t)) : cal (d + 5) 135 [.ref r, .int x] (L, I, J, t) (kI F X) := by
  have hn := hI.1.2
  have hdl := due_le (f := slt (bd I (r + 2)) (ordN (bd I (r + 2)))) (x := x) (m := n) (k := 0)
  refine e135 (t135_0 ?_)
  simp (disch := omega) only [vpT, nI_leI, nI_ltI, nI_eq, nleT, nleF, nltT, nltF, neqT, neqF, nI_add, pk_mul, subN, divN, nI_clamp, mI1, wrH, wrM1, wrM2, wrowH, wrowM, bI0, bI1, kIi, kVi, kRi, kLi, kIx, kVx, Option.some.injEq, exists_eq_left', true_and, and_true, true_implies, false_implies, implies_true, not_true_eq_false, not_false_eq_true, true_or, or_true, false_or, or_false, forall_eq, iteT, iteF, hR.1, LB_ hR.b, LT_ hR.t, LT_ hR.s]
  refine sp_layPlan hR hI fun I1 hs1 hT1 => t135_4 ?_
  have hb1 : bd I1 (r + 2) = bd I (r + 2) := hs1.bd (fun a h1 h2 => by omega)
  simp (disch := omega) only [vpT, nI_leI, nI_ltI, nI_eq, nleT, nleF, nltT, nltF, neqT, neqF, nI_add, pk_mul, subN, divN, nI_clamp, mI1, wrH, wrM1, wrM2, wrowH, wrowM, bI0, bI1, kIi, kVi, kRi, kLi, kIx, kVx, Option.some.injEq, exists_eq_left', true_and, and_true, true_implies, false_implies, implies_true, not_true_eq_false, not_false_eq_true, true_or, or_true, false_or, or_false, forall_eq, iteT, iteF, hR.1, LB_ hR.b, LT_ hR.t, LT_ hR.s]
  refine sp_dueBy (n := n) (sn := sn) (dn := dn) (o := ordN (bd I (r + 2))) hR.t hR.b (by rw [hb1]; exact hI) (by rw [hb1]; exact hT1) (t135_8 ?_)
  rw [hb1]
  generalize hD : due (slt (bd I (r + 2)) (ordN (bd I (r + 2)))) x n 0 = D at k hdl
  refine lg (n := D) (fun i l h => ∃ I2, l = [some (.ref r), some (.int x), some (.int (nI D)), some (.int (nI i))] ∧ h = (L, I2, J, t) ∧ same I1 I2 (fun a => r + 2 ≤ a ∧ a ≤ r + 2 + 12) ∧ Pss (slt (bd I (r + 2)) (ordN (bd I (r + 2)))) n dn i (bd I (r + 2)) (bd I2 (r + 2)) ∧ BI (bd I2 (r + 2)) (n - i) sn (mn20 (dn + i)) ∧ PI (bd I2 (r + 2)) (n - i)) ?_ ?_ (Nat.zero_le _) _ _ ⟨I1, rfl, rfl, same.rf, hb1, by rw [hb1, show mn20 (dn + 0) = dn by have := hI.2.2.1.2; unfold mn20; omega]; exact hI, by rw [hb1]; exact hP⟩
  · rintro i hi ih _ _ ⟨I2, rfl, rfl, hs, hps, hI2, hP2⟩
    have e2 : I2 (r + 23 + 2) i = slt (bd I (r + 2)) (ordN (bd I (r + 2))) i := by rw [hs _ (by omega)]; exact (hT1.1 i (by omega)).2
    refine t135_11 ?_
    simp (disch := omega) only [vpT, nI_leI, nI_ltI, nI_eq, nleT, nleF, nltT, nltF, neqT, neqF, nI_add, pk_mul, subN, divN, nI_clamp, mI1, wrH, wrM1, wrM2, wrowH, wrowM, bI0, bI1, kIi, kVi, kRi, kLi, kIx, kVx, Option.some.injEq, exists_eq_left', true_and, and_true, true_implies, false_implies, implies_true, not_true_eq_false, not_false_eq_true, true_or, or_true, false_or, or_false, forall_eq, iteT, iteF, hR.1, LB_ hR.b, LT_ hR.t, LT_ hR.s, e2]
    have hm : mn20 (mn20 (dn + i) + 1) = mn20 (dn + i + 1) := by unfold mn20; omega
    refine sp_finishFirst hR.b hI2 hP2 (by omega) rfl fun I3 T hs3 hD3 hR3 => t135_32 ?_
    have hz0 : ordN (bd I2 (r + 2)) 0 < n - i := (bi_or hI2 (by omega)).2
    obtain ⟨z, hz, ez⟩ := hI2.2.2.2.1 _ hz0
    have hIT := DnA_BI hI2 hD3 hz ez
    have hoT : ordN T = ordN (bd I2 (r + 2)) := by unfold ordN; rw [hD3.2.1.2.2.2.2.2.1]
    have hB3 := Rmv_BI hIT (DnA_PI hP2 hD3) (by omega) (by rw [hoT]) hR3
    rw [hm] at hIT hB3 hD3
    simp (disch := omega) only [vpT, nI_leI, nI_ltI, nI_eq, nleT, nleF, nltT, nltF, neqT, neqF, nI_add, pk_mul, subN, divN, nI_clamp, mI1, wrH, wrM1, wrM2, wrowH, wrowM, bI0, bI1, kIi, kVi, kRi, kLi, kIx, kVx, Option.some.injEq, exists_eq_left', true_and, and_true, true_implies, false_implies, implies_true, not_true_eq_false, not_false_eq_true, true_or, or_true, false_or, or_false, forall_eq, iteT, iteF, hR.1, LB_ hR.b, LT_ hR.t, LT_ hR.s]
    exact ih _ _ ⟨I3, rfl, rfl, hs.tr hs3, ⟨_, T, hps, hD3, hR3⟩, by rw [show n - (i + 1) = n - i - 1 by omega]; exact hB3.1, by rw [show n - (i + 1) = n - i - 1 by omega]; exact hB3.2⟩
  · rintro _ _ ⟨I2, rfl, rfl, hs, hps, hI2, hP2⟩
    refine t135_11 ?_
    simp (disch := omega) only [vpT, nI_leI, nI_ltI, nI_eq, nleT, nleF, nltT, nltF, neqT, neqF, nI_add, pk_mul, subN, divN, nI_clamp, mI1, wrH, wrM1, wrM2, wrowH, wrowM, bI0, bI1, kIi, kVi, kRi, kLi, kIx, kVx, Option.some.injEq, exists_eq_left', true_and, and_true, true_implies, false_implies, implies_true, not_true_eq_false, not_false_eq_true, true_or, or_true, false_or, or_false, forall_eq, iteT, iteF, hR.1, LB_ hR.b, LT_ hR.t, LT_ hR.s]
    refine k _ (bd I2 (r + 2)) (fun a ha => ?_) hps ?_
    · simp (disch := omega) only [vpT, nI_leI, nI_ltI, nI_eq, nleT, nleF, nltT, nltF, neqT, neqF, nI_add, pk_mul, subN, divN, nI_clamp, mI1, wrH, wrM1, wrM2, wrowH, wrowM, bI0, bI1, kIi, kVi, kRi, kLi, kIx, kVx, Option.some.injEq, exists_eq_left', true_and, and_true, true_implies, false_implies, implies_true, not_true_eq_false, not_false_eq_true, true_or, or_true, false_or, or_false, forall_eq, iteT, iteF, hR.1, LB_ hR.b, LT_ hR.t, LT_ hR.s]
      rw [hs a (by omega)]
      exact hs1 a (by omega)
    · simp (disch := omega) only [vpT, nI_leI, nI_ltI, nI_eq, nleT, nleF, nltT, nltF, neqT, neqF, nI_add, pk_mul, subN, divN, nI_clamp, mI1, wrH, wrM1, wrM2, wrowH, wrowM, bI0, bI1, kIi, kVi, kRi, kLi, kIx, kVx, Option.some.injEq, exists_eq_left', true_and, and_true, true_implies, false_implies, implies_true, not_true_eq_false, not_false_eq_true, true_or, or_true, false_or, or_false, forall_eq, iteT, iteF, bd, bF, bSo, bRe, bLa, bWe, bHu, bOr, bGa, bSF, bST, bDo, bDS, bDW, hR.1, LB_ hR.b, LT_ hR.t, LT_ hR.s]
      refine Prod.ext (funext fun j => ?_) rfl
      by_cases e : j = 13
      · simp (disch := omega) only [vpT, nI_leI, nI_ltI, nI_eq, nleT, nleF, nltT, nltF, neqT, neqF, nI_add, pk_mul, subN, divN, nI_clamp, mI1, wrH, wrM1, wrM2, wrowH, wrowM, bI0, bI1, kIi, kVi, kRi, kLi, kIx, kVx, Option.some.injEq, exists_eq_left', true_and, and_true, true_implies, false_implies, implies_true, not_true_eq_false, not_false_eq_true, true_or, or_true, false_or, or_false, forall_eq, iteT, iteF]
      · simp (disch := omega) only [vpT, nI_leI, nI_ltI, nI_eq, nleT, nleF, nltT, nltF, neqT, neqF, nI_add, pk_mul, subN, divN, nI_clamp, mI1, wrH, wrM1, wrM2, wrowH, wrowM, bI0, bI1, kIi, kVi, kRi, kLi, kIx, kVx, Option.some.injEq, exists_eq_left', true_and, and_true, true_implies, false_implies, implies_true, not_true_eq_false, not_false_eq_true, true_or, or_true, false_or, or_false, forall_eq, iteT, iteF]
end RUNWAY5
