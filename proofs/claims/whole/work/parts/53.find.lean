/-! The class's search: the best one, how many. -/
/-- what a search found -/
def Fnd (S : BS) (n f sh : Nat) (y v : Int32) (fr : rw1) : Prop := ∃ f0 L1, Bst (Leaf S n f sh true) (fun o => cst S o y n) n (nI 2147483647) f0 L1 fr ∧ v = if L1 = nI 2147483647 then -1 else L1
abbrev sb (r : Nat) : Nat → Prop := fun a => r + 15 ≤ a ∧ a ≤ r + 19 + 3 ∧ a ≠ r + 19
theorem Sub.plan {S : BS} {n f sh : Nat} {hd : Bool} {o : Nat → Nat} (hf : f ≤ n) : Sub S n f sh hd f (ordN S) o ↔ Leaf S n f sh hd o :=
  ⟨fun h => h.1, fun h => ⟨h, fun j hj => by have := h.2.2.1 j (by omega); rw [if_pos hj] at this; exact this⟩⟩
/-- how many go on behind the first k of o -/
def okc (S : BS) (n f sh : Nat) (hd : Bool) (k : Nat) (o : Nat → Nat) (c : Nat) : Bool := !usd o k c && ((if k < f then decide (c = ordN S k) else near S n sh c k) && (!hd || decide (slt S (upk o k c) k ≤ bLa S c)))
def sumN (g : Nat → Nat) : Nat → Nat
  | 0 => 0
  | m + 1 => sumN g m + g m
def ct (S : BS) (n f sh : Nat) (hd : Bool) : Nat → Nat → (Nat → Nat) → Nat
  | 0, _, _ => 1
  | m + 1, k, o => sumN (fun c => if okc S n f sh hd k o c then ct S n f sh hd m (k + 1) (upk o k c) else 0) n
theorem sumN_congr {g g' : Nat → Nat} : ∀ {m : Nat}, (∀ c, c < m → g c = g' c) → sumN g m = sumN g' m
  | 0, _ => rfl
  | m + 1, h => by unfold sumN; rw [sumN_congr (fun c hc => h c (by omega)), h m (by omega)]
theorem sumN_pos {g : Nat → Nat} : ∀ {m : Nat}, sumN g m ≠ 0 → ∃ c, c < m ∧ g c ≠ 0
  | 0, h => absurd rfl h
  | m + 1, h => by
    unfold sumN at h
    by_cases e : g m = 0
    · obtain ⟨c, hc, q⟩ := sumN_pos (g := g) (m := m) (by omega)
      exact ⟨c, by omega, q⟩
    · exact ⟨m, by omega, e⟩
theorem sumN_one {g : Nat → Nat} {c : Nat} : ∀ {m : Nat}, (∀ e, e < m → e ≠ c → g e = 0) → sumN g m = if c < m then g c else 0
  | 0, _ => rfl
  | m + 1, h => by
    unfold sumN
    rw [sumN_one (c := c) fun e he => h e (by omega)]
    by_cases q : m = c
    · subst q; rw [if_neg (by omega), if_pos (by omega), Nat.zero_add]
    · rw [h m (by omega) q]
      by_cases q2 : c < m
      · rw [if_pos q2, if_pos (by omega)]; rfl
      · rw [if_neg q2, if_neg (by omega)]
section COUNT
variable {S : BS} {n f sh : Nat} {hd : Bool}
theorem okc_iff {k c : Nat} {o : Nat → Nat} : okc S n f sh hd k o c = true ↔ usd o k c = false ∧ (if k < f then c = ordN S k else near S n sh c k = true) ∧ (hd = true → slt S (upk o k c) k ≤ bLa S c) := by
  unfold okc
  rw [Bool.and_eq_true, Bool.and_eq_true, Bool.or_eq_true, Bool.not_eq_true', Bool.not_eq_true', decide_eq_true_iff]
  constructor
  · rintro ⟨h1, h2, h3⟩
    refine ⟨h1, ?_, fun q => h3.elim (fun w => by rw [q] at w; cases w) id⟩
    by_cases hk : k < f
    · rw [if_pos hk] at h2 ⊢; exact of_decide_eq_true h2
    · rw [if_neg hk] at h2 ⊢; exact h2
  · rintro ⟨h1, h2, h3⟩
    refine ⟨h1, ?_, ?_⟩
    · by_cases hk : k < f
      · rw [if_pos hk] at h2 ⊢; exact decide_eq_true h2
      · rw [if_neg hk] at h2 ⊢; exact h2
    · cases hd with
      | false => exact Or.inl rfl
      | true => exact Or.inr (h3 rfl)
theorem upk_congr {o o' : Nat → Nat} {k c : Nat} (h : ∀ j, j < k → o j = o' j) : ∀ j, j < k + 1 → upk o k c j = upk o' k c j := fun j hj => by
  by_cases e : j = k
  · rw [e, upk_e, upk_e]
  · rw [upk_n e, upk_n e]; exact h j (by omega)
theorem ct_congr : ∀ {m k : Nat} {o o' : Nat → Nat}, (∀ j, j < k → o j = o' j) → ct S n f sh hd m k o = ct S n f sh hd m k o'
  | 0, _, _, _, _ => rfl
  | m + 1, k, o, o', h => by
    unfold ct
    refine sumN_congr fun c _ => ?_
    have e : okc S n f sh hd k o c = okc S n f sh hd k o' c := by
      unfold okc
      rw [usd_congr h, slt_congr (o := upk o k c) (o' := upk o' k c) (fun i hi => upk_congr h i (by omega))]
    rw [e, ct_congr (upk_congr h)]
theorem ct_leaf : ∀ {m k : Nat} {o : Nat → Nat}, k + m = n → Pre S n f sh hd k o → ct S n f sh hd m k o ≠ 0 → ∃ o', Sub S n f sh hd k o o'
  | 0, k, o, hk, hp, _ => by
    have : k = n := by omega
    subst this
    exact ⟨o, hp.leaf, fun _ _ => rfl⟩
  | m + 1, k, o, hk, hp, h => by
    obtain ⟨c, hc, q⟩ := sumN_pos h
    by_cases e : okc S n f sh hd k o c = true
    · rw [if_pos e] at q
      obtain ⟨h1, h2, h3⟩ := okc_iff.mp e
      obtain ⟨o', ho'⟩ := ct_leaf (by omega) (hp.up hc h1 h2 h3) q
      exact ⟨o', ho'.1, fun j hj => (ho'.2 j (by omega)).trans (upk_n (by omega))⟩
    · rw [if_neg e] at q
      exact absurd rfl q
theorem ct_late {m k c : Nat} {o : Nat → Nat} (hk : k + m = n) (hp : Pre S n f sh hd k o) (hf : f ≤ k) (hc : c < n) (hu : usd o k c = false) (hr : rk S n c + sh < k) : ct S n f sh hd m k o = 0 := by
  refine Classical.byContradiction fun q => ?_
  obtain ⟨o', ho'⟩ := ct_leaf hk hp q
  have := ho'.late hf hc hu
  omega
theorem ct_plan {m k : Nat} (hk : k < f) (hkn : k < n) (hP : PI S n) (hol : ∀ j, j < n → ordN S j < n) : ct S n f sh hd (m + 1) k (ordN S) = if !hd || decide (slt S (ordN S) k ≤ bLa S (ordN S k)) then ct S n f sh hd m (k + 1) (ordN S) else 0 := by
  have e : upk (ordN S) k (ordN S k) = ordN S := funext fun j => by
    by_cases q : j = k
    · rw [q, upk_e]
    · rw [upk_n q]
  have hu : usd (ordN S) k (ordN S k) = false := usd_f.mpr fun j hj q => by have := hP j k (by omega) hkn q; omega
  show sumN _ n = _
  rw [sumN_one (c := ordN S k) fun c hc hne => ?_, if_pos (hol k hkn), e]
  · unfold okc
    rw [hu, if_pos hk, decide_eq_true rfl, e]
    rfl
  · have : okc S n f sh hd k (ordN S) c = false := by
      unfold okc
      rw [if_pos hk, decide_eq_false hne, Bool.false_and, Bool.and_false]
    rw [this]
    rfl
end COUNT
section FIND
variable {d : Nat} {L : hL} {I : Nat → Nat → Int32} {J : Nat → Nat → Int64} {t : tl} {r n sn dn sh f T : Nat} {y : Int32} {F : Int32 → hp → Prop} {X : Nat → hp → Prop} {hd : Bool}
--facts hR.1, LB_ hR.b, LT_ hR.t, LT_ hR.s
theorem sp_findBest (hR : LR L r) (hI : BI (bd I (r + 2)) n sn dn) (hV : BV (bd I (r + 2)) n sn dn T) (hu : HU (bd I (r + 2)) n) (hP : PI (bd I (r + 2)) n) (hsh : bF (bd I (r + 2)) 11 = nI sh) (hs3 : sh ≤ 3) (hf : f ≤ n) (k : ∀ I2 v, same I I2 (sb r) → Fnd (bd I (r + 2)) n f sh y v (I2 (r + 18)) → F v (L, I2, J, t)) : cal (d + 15) 125 [.ref (r + 15), .int y, .int (nI f)] (L, I, J, t) (kI F X) := by
  have hn := hI.1.2
  refine e125 (t125_0 ?_)
  simp (disch := omega) only [vpT, nI_leI, nI_ltI, nI_eq, nleT, nleF, nltT, nltF, neqT, neqF, nI_add, pk_mul, subN, divN, nI_clamp, mI1, wrH, wrM1, wrM2, wrowH, wrowM, bI0, bI1, kIi, kVi, kRi, kLi, kIx, kVx, Option.some.injEq, exists_eq_left', true_and, and_true, true_implies, false_implies, implies_true, not_true_eq_false, not_false_eq_true, true_or, or_true, false_or, or_false, forall_eq, iteT, iteF, hR.1, LB_ hR.b, LT_ hR.t, LT_ hR.s]
  have hbw : bd (wr (wr I (r + 15) 5 y) (r + 15) 6 (nI 2147483647)) (r + 2) = bd I (r + 2) := bd_same fun a h1 h2 => by simp (disch := omega) only [vpT, nI_leI, nI_ltI, nI_eq, nleT, nleF, nltT, nltF, neqT, neqF, nI_add, pk_mul, subN, divN, nI_clamp, mI1, wrH, wrM1, wrM2, wrowH, wrowM, bI0, bI1, kIi, kVi, kRi, kLi, kIx, kVx, Option.some.injEq, exists_eq_left', true_and, and_true, true_implies, false_implies, implies_true, not_true_eq_false, not_false_eq_true, true_or, or_true, false_or, or_false, forall_eq, iteT, iteF, hR.1, LB_ hR.b, LT_ hR.t, LT_ hR.s]
  refine sp_sbegin (n := n) (sn := sn) (dn := dn) hR (by rw [hbw]; exact hI) (by rw [hbw]; exact hu) fun I1 hs1 hE1 hT1 => t125_15 ?_
  rw [hbw] at hE1 hT1
  have f1 : I1 (r + 15) 5 = y ∧ I1 (r + 15) 6 = nI 2147483647 := by
    rw [hs1 _ (by omega)]
    constructor
    · simp (disch := omega) only [vpT, nI_leI, nI_ltI, nI_eq, nleT, nleF, nltT, nltF, neqT, neqF, nI_add, pk_mul, subN, divN, nI_clamp, mI1, wrH, wrM1, wrM2, wrowH, wrowM, bI0, bI1, kIi, kVi, kRi, kLi, kIx, kVx, Option.some.injEq, exists_eq_left', true_and, and_true, true_implies, false_implies, implies_true, not_true_eq_false, not_false_eq_true, true_or, or_true, false_or, or_false, forall_eq, iteT, iteF, hR.1, LB_ hR.b, LT_ hR.t, LT_ hR.s]
    · simp (disch := omega) only [vpT, nI_leI, nI_ltI, nI_eq, nleT, nleF, nltT, nltF, neqT, neqF, nI_add, pk_mul, subN, divN, nI_clamp, mI1, wrH, wrM1, wrM2, wrowH, wrowM, bI0, bI1, kIi, kVi, kRi, kLi, kIx, kVx, Option.some.injEq, exists_eq_left', true_and, and_true, true_implies, false_implies, implies_true, not_true_eq_false, not_false_eq_true, true_or, or_true, false_or, or_false, forall_eq, iteT, iteF, hR.1, LB_ hR.b, LT_ hR.t, LT_ hR.s]
  have hsI : same I I1 (sb r) := fun a ha => by
    rw [hs1 a (by omega)]
    simp (disch := omega) only [vpT, nI_leI, nI_ltI, nI_eq, nleT, nleF, nltT, nltF, neqT, neqF, nI_add, pk_mul, subN, divN, nI_clamp, mI1, wrH, wrM1, wrM2, wrowH, wrowM, bI0, bI1, kIi, kVi, kRi, kLi, kIx, kVx, Option.some.injEq, exists_eq_left', true_and, and_true, true_implies, false_implies, implies_true, not_true_eq_false, not_false_eq_true, true_or, or_true, false_or, or_false, forall_eq, iteT, iteF, hR.1, LB_ hR.b, LT_ hR.t, LT_ hR.s]
  have hb1 : bd I1 (r + 2) = bd I (r + 2) := hsI.bd (fun a h1 h2 => by omega)
  refine lg (n := f) (fun i l h => ∃ I2 x l6 l7, l = [some (.ref (r + 15)), some (.int y), some (.int (nI f)), some (.int x), some (.int (cst (bd I (r + 2)) (ordN (bd I (r + 2))) y i)), some (.int (nI i)), l6, l7] ∧ h = (L, I2, J, t) ∧ same I1 I2 (st r) ∧ Tab I2 (r + 19) (bd I (r + 2)) (ordN (bd I (r + 2))) i ∧ MK x (usd (ordN (bd I (r + 2))) i) ∧ ∀ j, j < i → slt (bd I (r + 2)) (ordN (bd I (r + 2))) j ≤ bLa (bd I (r + 2)) (ordN (bd I (r + 2)) j)) ?_ ?_ (Nat.zero_le _) _ _ ⟨I1, nI 0, _, _, rfl, rfl, same.rf, hT1 _, MK_0, fun j hj => by omega⟩
  · rintro i hi ih _ _ ⟨I2, x, l6, l7, rfl, rfl, hs, hT2, hm, hh⟩
    have hb2 : bd I2 (r + 2) = bd I (r + 2) := (hs.bd (fun a h1 h2 => by omega)).trans hb1
    have ho := bi_or hI (show i < n by omega)
    have e6 : I2 (r + 2 + 6) i = nI (ordN (bd I (r + 2)) i) := by rw [hs _ (by omega), hsI _ (by omega)]; exact ho.1
    refine t125_23 ?_
    simp (disch := omega) only [vpT, nI_leI, nI_ltI, nI_eq, nleT, nleF, nltT, nltF, neqT, neqF, nI_add, pk_mul, subN, divN, nI_clamp, mI1, wrH, wrM1, wrM2, wrowH, wrowM, bI0, bI1, kIi, kVi, kRi, kLi, kIx, kVx, Option.some.injEq, exists_eq_left', true_and, and_true, true_implies, false_implies, implies_true, not_true_eq_false, not_false_eq_true, true_or, or_true, false_or, or_false, forall_eq, iteT, iteF, hR.1, LB_ hR.b, LT_ hR.t, LT_ hR.s, e6]
    refine sp_put (n := n) (sn := sn) (dn := dn) (o := ordN (bd I (r + 2))) hR.s hR.b (by omega) (by rw [hb2]; exact hI) (by omega) ho.2 rfl (by rw [hb2]; exact hT2) fun I3 hs3' hT3 => t125_52 ?_
    rw [hb2] at hT3 ⊢
    have e3 : I3 (r + 2 + 3) (ordN (bd I (r + 2)) i) = bLa (bd I (r + 2)) (ordN (bd I (r + 2)) i) := by rw [hs3' _ (by omega), hs _ (by omega), hsI _ (by omega)]; rfl
    have e5 : I3 (r + 15) 5 = y := by rw [hs3' _ (by omega), hs _ (by omega)]; exact f1.1
    simp (disch := omega) only [vpT, nI_leI, nI_ltI, nI_eq, nleT, nleF, nltT, nltF, neqT, neqF, nI_add, pk_mul, subN, divN, nI_clamp, mI1, wrH, wrM1, wrM2, wrowH, wrowM, bI0, bI1, kIi, kVi, kRi, kLi, kIx, kVx, Option.some.injEq, exists_eq_left', true_and, and_true, true_implies, false_implies, implies_true, not_true_eq_false, not_false_eq_true, true_or, or_true, false_or, or_false, forall_eq, iteT, iteF, hR.1, LB_ hR.b, LT_ hR.t, LT_ hR.s, e3, e5]
    refine ⟨fun h1 => ?_, fun h1 => ?_⟩
    · refine sp_costWith hR.s hR.b (by omega) (t125_88 ?_)
      have hb3 : bd I3 (r + 2) = bd I (r + 2) := (hs3'.bd (fun a h1 h2 => by omega)).trans hb2
      rw [hb3]
      simp (disch := omega) only [vpT, nI_leI, nI_ltI, nI_eq, nleT, nleF, nltT, nltF, neqT, neqF, nI_add, pk_mul, subN, divN, nI_clamp, mI1, wrH, wrM1, wrM2, wrowH, wrowM, bI0, bI1, kIi, kVi, kRi, kLi, kIx, kVx, Option.some.injEq, exists_eq_left', true_and, and_true, true_implies, false_implies, implies_true, not_true_eq_false, not_false_eq_true, true_or, or_true, false_or, or_false, forall_eq, iteT, iteF, hR.1, LB_ hR.b, LT_ hR.t, LT_ hR.s]
      refine ih _ _ ⟨I3, _, _, _, rfl, rfl, hs.tr hs3', hT3, (MK_or hm (by omega)).congr' fun e _ => usd_succ.symm, fun j hj => ?_⟩
      by_cases e : j = i
      · rw [e]; exact h1
      · exact hh j (by omega)
    · refine k I3 (-1) ((hsI.tr (hs.up fun a h => by omega)).tr (hs3'.up fun a h => by omega)) ⟨I3 (r + 18), nI 2147483647, Bst.no fun o q => ?_, by rw [if_pos rfl]⟩
      have q1 := q.2.2.2 rfl i (by omega)
      have q2 := (Sub.plan hf).mpr q
      rw [slt_congr (o' := ordN (bd I (r + 2))) (fun j hj => q2.2 j (by omega)), q2.2 i hi] at q1
      exact h1 q1
  · rintro _ _ ⟨I2, x, l6, l7, rfl, rfl, hs, hT2, hm, hh⟩
    have hb2 : bd I2 (r + 2) = bd I (r + 2) := (hs.bd (fun a h1 h2 => by omega)).trans hb1
    have hE2 : SE I2 r (bd I (r + 2)) n := hE1.same hs (by omega) (by omega)
    have e5 : I2 (r + 15) 5 = y := by rw [hs _ (by omega)]; exact f1.1
    have e6 : I2 (r + 15) 6 = nI 2147483647 := by rw [hs _ (by omega)]; exact f1.2
    have hsA : same I I2 (sb r) := hsI.tr (hs.up fun a h => by omega)
    refine t125_23 ?_
    simp (disch := omega) only [vpT, nI_leI, nI_ltI, nI_eq, nleT, nleF, nltT, nltF, neqT, neqF, nI_add, pk_mul, subN, divN, nI_clamp, mI1, wrH, wrM1, wrM2, wrowH, wrowM, bI0, bI1, kIi, kVi, kRi, kLi, kIx, kVx, Option.some.injEq, exists_eq_left', true_and, and_true, true_implies, false_implies, implies_true, not_true_eq_false, not_false_eq_true, true_or, or_true, false_or, or_false, forall_eq, iteT, iteF, hR.1, LB_ hR.b, LT_ hR.t, LT_ hR.s]
    refine sp_overdue (n := n) (sn := sn) (dn := dn) (sh := sh) hR (by rw [hb2]; exact hI) (by rw [hb2]; exact hsh) hs3 (by rw [hb2]; exact hE2) hm (by omega) (t125_109 ?_)
    rw [hb2]
    simp (disch := omega) only [vpT, nI_leI, nI_ltI, nI_eq, nleT, nleF, nltT, nltF, neqT, neqF, nI_add, pk_mul, subN, divN, nI_clamp, mI1, wrH, wrM1, wrM2, wrowH, wrowM, bI0, bI1, kIi, kVi, kRi, kLi, kIx, kVx, Option.some.injEq, exists_eq_left', true_and, and_true, true_implies, false_implies, implies_true, not_true_eq_false, not_false_eq_true, true_or, or_true, false_or, or_false, forall_eq, iteT, iteF, hR.1, LB_ hR.b, LT_ hR.t, LT_ hR.s]
    have done : ∀ I3 l6 l7, same I I3 (sb r) → (∃ f0, Bst (Leaf (bd I (r + 2)) n f sh true) (fun o => cst (bd I (r + 2)) o y n) n (nI 2147483647) f0 (I3 (r + 15) 6) (I3 (r + 18))) → Wp (cal (d + 14)) kc_125 [] (kI F X) (120, [some (.ref (r + 15)), some (.int y), some (.int (nI f)), some (.int x), some (.int (cst (bd I (r + 2)) (ordN (bd I (r + 2))) y f)), some (.int (nI f)), l6, l7], [], (L, I3, J, t)) := by
      intro I3 l6 l7 hs3' ⟨f0, hB⟩
      refine t125_120 ?_
      simp only [hR.1, true_and, kIi]
      refine ⟨fun h => k I3 _ hs3' ⟨f0, _, hB, by rw [if_neg h]⟩, fun h => k I3 _ hs3' ⟨f0, _, hB, by rw [if_pos h]⟩⟩
    refine ⟨fun h => ?_, fun h => ?_⟩
    · refine done I2 _ _ hsA ⟨I2 (r + 18), ?_⟩
      rw [e6]
      refine Bst.no fun o q => ?_
      obtain ⟨c, hc, w⟩ := anyB_iff.mp (btf h)
      rw [Bool.and_eq_true, Bool.not_eq_true', decide_eq_true_iff] at w
      have := ((Sub.plan hf).mpr q).late (Nat.le_refl _) hc w.1
      omega
    · refine sp_goDeeper (d := d + 10 - (n - f)) (n := n) (sn := sn) (dn := dn) (sh := sh) (f := f) (y := y) hR hI hV hu hsh hs3 (n - f) f (by omega) (Nat.le_refl _) I2 (ordN (bd I (r + 2))) x _ hb2 hE2 e5 hT2 ⟨fun j hj => (bi_or hI (by omega)).2, fun i j hi hj e => hP i j (by omega) (by omega) e, fun j hj => by rw [if_pos hj], fun _ => hh⟩ hm (fun I3 hs3' hf3 hT3 hB3 => ?_) |> (fun q => by
        rw [show d + 10 - (n - f) + (n - f) + 4 = d + 14 by omega] at q
        exact q)
      rw [e6] at hB3
      exact done I3 _ _ (hsA.tr (hs3'.up fun a h => by omega)) ⟨_, hB3.iff fun o => Sub.plan hf⟩
end FIND
