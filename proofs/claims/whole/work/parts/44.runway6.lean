/-! The class's runways: held by, waits, holes, slack, by ranks. -/
theorem mIm (a : Nat) : nI a + (-1) = nI a - nI 1 := by rw [Int32.sub_eq_add_neg]; rfl
/-- ready of a craft another one -/
def setRe (S : BS) (c : Nat) (x : Int32) : BS := (S.1, S.2.1, (fun k => if k = c then x else bRe S k), S.2.2.2)
theorem setRe_wr {I : Nat → Nat → Int32} {b c : Nat} {x : Int32} : bd (wr I (b + 2) c x) b = setRe (bd I b) c x := by
  have e : ∀ a, a ≠ b + 2 → wr I (b + 2) c x a = I a := fun a ha => wr_row ha
  have e2 : wr I (b + 2) c x (b + 2) = fun k => if k = c then x else I (b + 2) k := by
    funext k
    by_cases h : k = c
    · rw [wrH rfl h, if_pos h]
    · rw [wrM2 h, if_neg h]
  unfold setRe bd
  simp (disch := omega) only [e, e2]
theorem setRe_2 {S : BS} {c : Nat} {x y : Int32} : setRe (setRe S c x) c y = setRe S c y := by
  unfold setRe
  refine Prod.ext rfl (Prod.ext rfl (Prod.ext (funext fun k => ?_) rfl))
  show (if k = c then y else if k = c then x else bRe S k) = _
  by_cases h : k = c <;> simp [h]
def slk (p : Nat → Bool) : Nat → Int32
  | 0 => nI 0
  | k + 1 => if p (k + 1) then nI (k + 1) else slk p k
/-- slack of the one at place p -/
def slkR (S : BS) (n p : Nat) : Int32 := if hold S (ordN S) n then slk (fun e => hold (setRe S (ordN S p) (slt S (ordN S) p + nI e)) (ordN S) n) 99 else -1
/-- the place of who comes last by rank -/
def lbi (S : BS) (o : Nat → Nat) (f : Nat) : Nat → Nat
  | 0 => f
  | m + 1 => if ahd S (o (lbi S o f m)) (o (f + m + 1)) then f + m + 1 else lbi S o f m
theorem lbi_le {S : BS} {o : Nat → Nat} {f : Nat} : ∀ {m : Nat}, f ≤ lbi S o f m ∧ lbi S o f m ≤ f + m
  | 0 => ⟨Nat.le_refl _, Nat.le_refl _⟩
  | m + 1 => by
    have := lbi_le (S := S) (o := o) (f := f) (m := m)
    unfold lbi
    split <;> omega
theorem lbr_lbi {S : BS} {o : Nat → Nat} {f : Nat} : ∀ {m : Nat}, lbr S o f m = o (lbi S o f m)
  | 0 => rfl
  | m + 1 => by
    unfold lbr lbi
    rw [lbr_lbi]
    split <;> rfl
theorem lbi_congr {S : BS} {o o' : Nat → Nat} {f : Nat} : ∀ {m : Nat}, (∀ j, j ≤ f + m → o j = o' j) → lbi S o f m = lbi S o' f m
  | 0, _ => rfl
  | m + 1, h => by
    have e := lbi_congr (S := S) (o := o) (o' := o') (f := f) (m := m) (fun j hj => h j (by omega))
    have hl := lbi_le (S := S) (o := o') (f := f) (m := m)
    unfold lbi
    rw [e, h _ (by omega), h (f + m + 1) (by omega)]
/-- the order with the m + 1 from f on put by ranks, the last one first -/
def obr (S : BS) (f : Nat) : Nat → (Nat → Nat) → Nat → Nat
  | 0, o => o
  | m + 1, o => obr S f m (mvd o (lbi S o f (m + 1)) (f + m + 1))
def trn (S : BS) (o : Nat → Nat) : Nat → Nat
  | 0 => 0
  | p + 1 => trn S o p + cntB (fun q => ahd S (o p) (o q)) p
theorem trn_le {S : BS} {o : Nat → Nat} : ∀ {p : Nat}, trn S o p ≤ p * p
  | 0 => Nat.le_refl _
  | p + 1 => by
    have h1 := trn_le (S := S) (o := o) (p := p)
    have h2 := cntB_le (p := fun q => ahd S (o p) (o q)) (n := p)
    have h3 : (p + 1) * (p + 1) = p * p + p + p + 1 := by rw [Nat.add_mul, Nat.mul_add]; omega
    unfold trn; omega
theorem ahd_eq {S S' : BS} (h1 : bHu S = bHu S') (h2 : bRe S = bRe S') (a c : Nat) : ahd S a c = ahd S' a c := by unfold ahd; rw [h1, h2]
section RUNWAY6
variable {d : Nat} {L : hL} {I : Nat → Nat → Int32} {J : Nat → Nat → Int64} {t : tl} {r b n sn dn : Nat} {F : Int32 → hp → Prop} {G : hp → Prop} {N : Nat → hp → Prop} {X : Nat → hp → Prop}
--facts hR.1, LB_ hR.b, LT_ hR.t, LT_ hR.s
theorem sp_heldBy {c p : Nat} (hR : LR L r) (hI : BI (bd I (r + 2)) n sn dn) (hP : PI (bd I (r + 2)) n) (hp : p < n) (hc : ordN (bd I (r + 2)) p = c) (k : ∀ I2, same I I2 (tb r) → F (hby (bd I (r + 2)) (ordN (bd I (r + 2))) dn p) (L, I2, J, t)) : cal (d + 5) 91 [.ref r, .int (nI c)] (L, I, J, t) (kI F X) := by
  have hn := hI.1.2
  have hd20 := hI.2.2.1.2
  have hcn : c < n := by rw [← hc]; exact (bi_or hI hp).2
  obtain ⟨z, hz, ez⟩ := hI.2.2.2.1 c hcn
  have ezc : (bSo (bd I (r + 2)) (ordN (bd I (r + 2)) p)).toNatClampNeg = z := by rw [hc, ez, nI_clamp (by omega)]
  refine e91 (t91_0 ?_)
  simp (disch := omega) only [vpT, nI_leI, nI_ltI, nI_eq, nleT, nleF, nltT, nltF, neqT, neqF, nI_add, pk_mul, subN, divN, nI_clamp, mI1, wrH, wrM1, wrM2, wrowH, wrowM, bI0, bI1, kIi, kVi, kRi, kLi, kIx, kVx, Option.some.injEq, exists_eq_left', true_and, and_true, true_implies, false_implies, implies_true, not_true_eq_false, not_false_eq_true, true_or, or_true, false_or, or_false, forall_eq, iteT, iteF, hR.1, LB_ hR.b, LT_ hR.t, LT_ hR.s]
  refine sp_layPlan hR hI fun I1 hs1 hT1 => t91_4 ?_
  have hb1 : bd I1 (r + 2) = bd I (r + 2) := hs1.bd (fun a h1 h2 => by omega)
  have hI1 : BI (bd I1 (r + 2)) n sn dn := by rw [hb1]; exact hI
  have row : ∀ a, ¬ (r + 23 < a ∧ a ≤ r + 23 + 3) → I1 a = I a := fun a ha => hs1 a ha
  have ez1 : I1 (r + 2 + 1) c = nI z := by rw [row _ (by omega)]; exact ez
  have e2 : I1 (r + 2 + 2) c = bRe (bd I (r + 2)) c := by rw [row _ (by omega)]; rfl
  have e13 : I1 (r + 2) 13 = bF (bd I (r + 2)) 13 := by rw [row _ (by omega)]; rfl
  have e14 : I1 (r + 2) 14 = nI dn := by rw [row _ (by omega)]; exact hI.2.2.1.1
  have e6 : ∀ j, j < n → I1 (r + 2 + 6) j = nI (ordN (bd I (r + 2)) j) := fun j hj => by rw [row _ (by omega)]; exact (bi_or hI hj).1
  have eS : ∀ j, j < n → I1 (r + 23 + 2) j = slt (bd I (r + 2)) (ordN (bd I (r + 2))) j := fun j hj => (hT1.1 j hj).2
  have e11 : ∀ j, I1 (r + 2 + 11) j = bDS (bd I (r + 2)) j := fun j => by rw [row _ (by omega)]; rfl
  simp (disch := omega) only [vpT, nI_leI, nI_ltI, nI_eq, nleT, nleF, nltT, nltF, neqT, neqF, nI_add, pk_mul, subN, divN, nI_clamp, mI1, wrH, wrM1, wrM2, wrowH, wrowM, bI0, bI1, kIi, kVi, kRi, kLi, kIx, kVx, Option.some.injEq, exists_eq_left', true_and, and_true, true_implies, false_implies, implies_true, not_true_eq_false, not_false_eq_true, true_or, or_true, false_or, or_false, forall_eq, iteT, iteF, hR.1, LB_ hR.b, LT_ hR.t, LT_ hR.s]
  refine sp_placeOf (p := p) hR.b hI1 (by rw [hb1]; exact hP) hp (by rw [hb1]; exact hc) (t91_13 ?_)
  replace k := k I1 hs1
  unfold hby at k
  rw [ezc, hc] at k
  generalize hsl : slt (bd I (r + 2)) (ordN (bd I (r + 2))) p = s at k
  simp (disch := omega) only [vpT, nI_leI, nI_ltI, nI_eq, nleT, nleF, nltT, nltF, neqT, neqF, nI_add, pk_mul, subN, divN, nI_clamp, mI1, wrH, wrM1, wrM2, wrowH, wrowM, bI0, bI1, kIi, kVi, kRi, kLi, kIx, kVx, Option.some.injEq, exists_eq_left', true_and, and_true, true_implies, false_implies, implies_true, not_true_eq_false, not_false_eq_true, true_or, or_true, false_or, or_false, forall_eq, iteT, iteF, hR.1, LB_ hR.b, LT_ hR.t, LT_ hR.s, ez1, e2, e13, eS p hp, hsl]
  refine ⟨fun h1 => ?_, fun h1 => ⟨fun h2 => ?_, fun h2 => ?_⟩⟩
  · rw [if_pos (Or.inl h1)] at k; exact k
  · rw [if_neg (fun q => q.elim h1 h2)] at k
    refine sp_isClosed hR.b hI1 (t91_72 ?_)
    rw [hb1]
    simp (disch := omega) only [vpT, nI_leI, nI_ltI, nI_eq, nleT, nleF, nltT, nltF, neqT, neqF, nI_add, pk_mul, subN, divN, nI_clamp, mI1, wrH, wrM1, wrM2, wrowH, wrowM, bI0, bI1, kIi, kVi, kRi, kLi, kIx, kVx, Option.some.injEq, exists_eq_left', true_and, and_true, true_implies, false_implies, implies_true, not_true_eq_false, not_false_eq_true, true_or, or_true, false_or, or_false, forall_eq, iteT, iteF, hR.1, LB_ hR.b, LT_ hR.t, LT_ hR.s]
    have down : ∀ q, q ≤ p → lst1 (hbP (bd I (r + 2)) (ordN (bd I (r + 2))) z s) (ordN (bd I (r + 2))) p = lst1 (hbP (bd I (r + 2)) (ordN (bd I (r + 2))) z s) (ordN (bd I (r + 2))) q → F (lst1 (hbP (bd I (r + 2)) (ordN (bd I (r + 2))) z s) (ordN (bd I (r + 2))) p) (L, I1, J, t) → ∀ l6, Wp (cal (d + 4)) kc_91 [] (kI F X) (141, [some (.ref r), some (.int (nI c)), some (.int (nI p)), some (.int s), some (.int (nI z)), some (.int (nI q - nI 1)), l6], [], (L, I1, J, t)) := by
      intro q
      induction q with
      | zero =>
        intro _ he kk l6
        refine t91_141 ?_
        have hm : (nI 0 - nI 1 < nI 0) = True := eq_true (by decide)
        simp only [hm, true_implies, not_true_eq_false, false_implies, and_true, kIi]
        rw [he] at kk
        exact kk
      | succ q ih =>
        intro hq he kk l6
        refine t91_141 ?_
        obtain ⟨zq, hzq, ezq⟩ := hI.2.2.2.1 _ (bi_or hI (show q < n by omega)).2
        have hol := (bi_or hI (show q < n by omega)).2
        have ez2 : I1 (r + 2 + 1) (ordN (bd I (r + 2)) q) = nI zq := by rw [row _ (by omega)]; exact ezq
        have ez3 : (bSo (bd I (r + 2)) (ordN (bd I (r + 2)) q)).toNatClampNeg = zq := by rw [ezq, nI_clamp (by omega)]
        simp (disch := omega) only [vpT, nI_leI, nI_ltI, nI_eq, nleT, nleF, nltT, nltF, neqT, neqF, nI_add, pk_mul, subN, divN, nI_clamp, mI1, wrH, wrM1, wrM2, wrowH, wrowM, bI0, bI1, kIi, kVi, kRi, kLi, kIx, kVx, Option.some.injEq, exists_eq_left', true_and, and_true, true_implies, false_implies, implies_true, not_true_eq_false, not_false_eq_true, true_or, or_true, false_or, or_false, forall_eq, iteT, iteF, hR.1, LB_ hR.b, LT_ hR.t, LT_ hR.s, show q + 1 - 1 = q by omega, e6, eS, ez2]
        refine sp_gapOf hR.b hzq hz (t91_187 ?_)
        rw [hb1]
        simp (disch := omega) only [vpT, nI_leI, nI_ltI, nI_eq, nleT, nleF, nltT, nltF, neqT, neqF, nI_add, pk_mul, subN, divN, nI_clamp, mI1, wrH, wrM1, wrM2, wrowH, wrowM, bI0, bI1, kIi, kVi, kRi, kLi, kIx, kVx, Option.some.injEq, exists_eq_left', true_and, and_true, true_implies, false_implies, implies_true, not_true_eq_false, not_false_eq_true, true_or, or_true, false_or, or_false, forall_eq, iteT, iteF, hR.1, LB_ hR.b, LT_ hR.t, LT_ hR.s, mIm]
        have hbe : hbP (bd I (r + 2)) (ordN (bd I (r + 2))) z s q = decide (slt (bd I (r + 2)) (ordN (bd I (r + 2))) q + bGa (bd I (r + 2)) (zq * 8 + z) = s) := by unfold hbP; rw [ez3]
        have hl1 : lst1 (hbP (bd I (r + 2)) (ordN (bd I (r + 2))) z s) (ordN (bd I (r + 2))) (q + 1) = if hbP (bd I (r + 2)) (ordN (bd I (r + 2))) z s q then nI (ordN (bd I (r + 2)) q) else lst1 (hbP (bd I (r + 2)) (ordN (bd I (r + 2))) z s) (ordN (bd I (r + 2))) q := rfl
        refine ⟨fun h5 => ih (by omega) ?_ kk _, fun h5 => ?_⟩
        · rw [he, hl1, hbe, decide_eq_false h5]; rfl
        · rw [he, hl1, hbe, decide_eq_true h5] at kk
          exact kk
    refine ⟨fun h3 => ?_, fun h3 => ?_⟩
    · have h3' : opn (bd I (r + 2)) (s - nI 1) = s - nI 1 := by simpa using h3
      rw [if_pos h3'] at k
      refine lqP (n := dn) (fun i => anyB (hbD (bd I (r + 2)) z s) i = false) (fun i => [some (.ref r), some (.int (nI c)), some (.int (nI p)), some (.int s), some (.int (nI z)), some (.int (nI i)), _]) rfl (fun i hi hd ih => t91_81 ?_) (fun hd => t91_81 ?_)
      · obtain ⟨zi, hzi, ezi⟩ := hI.2.2.2.2.2 i hi
        have ez2 : I1 (r + 2 + 10) i = nI zi := by rw [row _ (by omega)]; exact ezi
        simp (disch := omega) only [vpT, nI_leI, nI_ltI, nI_eq, nleT, nleF, nltT, nltF, neqT, neqF, nI_add, pk_mul, subN, divN, nI_clamp, mI1, wrH, wrM1, wrM2, wrowH, wrowM, bI0, bI1, kIi, kVi, kRi, kLi, kIx, kVx, Option.some.injEq, exists_eq_left', true_and, and_true, true_implies, false_implies, implies_true, not_true_eq_false, not_false_eq_true, true_or, or_true, false_or, or_false, forall_eq, iteT, iteF, hR.1, LB_ hR.b, LT_ hR.t, LT_ hR.s, e14, e11, ez2]
        refine sp_gapOf hR.b hzi hz (t91_122 ?_)
        rw [hb1]
        simp (disch := omega) only [vpT, nI_leI, nI_ltI, nI_eq, nleT, nleF, nltT, nltF, neqT, neqF, nI_add, pk_mul, subN, divN, nI_clamp, mI1, wrH, wrM1, wrM2, wrowH, wrowM, bI0, bI1, kIi, kVi, kRi, kLi, kIx, kVx, Option.some.injEq, exists_eq_left', true_and, and_true, true_implies, false_implies, implies_true, not_true_eq_false, not_false_eq_true, true_or, or_true, false_or, or_false, forall_eq, iteT, iteF, hR.1, LB_ hR.b, LT_ hR.t, LT_ hR.s]
        have hbe : hbD (bd I (r + 2)) z s i = decide (bDS (bd I (r + 2)) i + bGa (bd I (r + 2)) (zi * 8 + z) = s) := by unfold hbD; rw [ezi, nI_clamp (by omega)]
        refine ⟨fun h5 => ih ?_, fun h5 => ?_⟩
        · unfold anyB; rw [hd, hbe, decide_eq_false h5]; rfl
        · rw [show anyB (hbD (bd I (r + 2)) z s) dn = true from anyB_iff.mpr ⟨i, hi, by rw [hbe]; exact decide_eq_true h5⟩] at k
          exact k
      · simp (disch := omega) only [vpT, nI_leI, nI_ltI, nI_eq, nleT, nleF, nltT, nltF, neqT, neqF, nI_add, pk_mul, subN, divN, nI_clamp, mI1, wrH, wrM1, wrM2, wrowH, wrowM, bI0, bI1, kIi, kVi, kRi, kLi, kIx, kVx, Option.some.injEq, exists_eq_left', true_and, and_true, true_implies, false_implies, implies_true, not_true_eq_false, not_false_eq_true, true_or, or_true, false_or, or_false, forall_eq, iteT, iteF, hR.1, LB_ hR.b, LT_ hR.t, LT_ hR.s, e14]
        rw [hd] at k
        exact down p (Nat.le_refl _) rfl k _
    · have h3' : ¬ opn (bd I (r + 2)) (s - nI 1) = s - nI 1 := by simpa using h3
      rw [if_neg h3'] at k
      exact k
  · rw [if_pos (Or.inr h2)] at k; exact k
end RUNWAY6
