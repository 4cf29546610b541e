/-! The class's search: its parts. -/
theorem suble {a b c : Nat} (ha : a < 1000) (hb : b < 1000) (hc : c < 1000) : (nI a - nI b ≤ nI c) = (a ≤ b + c) := by
  have e1 : (nI a - nI b).toInt = (a : Int) - b := by
    rw [Int32.toInt_sub, nI_toInt (by omega), nI_toInt (by omega)]
    exact Int.bmod_eq_of_le (by omega) (by omega)
  rw [Int32.le_iff_toInt_le, e1, nI_toInt (by omega)]
  exact propext ⟨fun h => by omega, fun h => by omega⟩
theorem sublt {a b c : Nat} (ha : a < 1000) (hb : b < 1000) (hc : c < 1000) : (nI c < nI a - nI b) = (b + c < a) := by
  have e1 : (nI a - nI b).toInt = (a : Int) - b := by
    rw [Int32.toInt_sub, nI_toInt (by omega), nI_toInt (by omega)]
    exact Int.bmod_eq_of_le (by omega) (by omega)
  rw [Int32.lt_iff_toInt_lt, e1, nI_toInt (by omega)]
  exact propext ⟨fun h => by omega, fun h => by omega⟩
theorem sublt2 {a b c : Nat} (ha : a < 1000) (hb : b < 1000) (hc : c < 1000) : (nI c < -(nI a - nI b)) = (a + c < b) := by
  have e1 : (nI a - nI b).toInt = (a : Int) - b := by
    rw [Int32.toInt_sub, nI_toInt (by omega), nI_toInt (by omega)]
    exact Int.bmod_eq_of_le (by omega) (by omega)
  rw [Int32.lt_iff_toInt_lt, Int32.toInt_neg, e1, nI_toInt (by omega), Int.bmod_eq_of_le (by omega) (by omega)]
  exact propext ⟨fun h => by omega, fun h => by omega⟩
theorem subneg {a b : Nat} (ha : a < 1000) (hb : b < 1000) : (nI a - nI b < nI 0) = (a < b) := by
  have e1 : (nI a - nI b).toInt = (a : Int) - b := by
    rw [Int32.toInt_sub, nI_toInt (by omega), nI_toInt (by omega)]
    exact Int.bmod_eq_of_le (by omega) (by omega)
  rw [Int32.lt_iff_toInt_lt, e1, nI_toInt (by omega)]
  exact propext ⟨fun h => by omega, fun h => by omega⟩
theorem bIu {p : Bool} : (nI (if p = true then 1 else 0) = nI 0) = (p = false) := by cases p <;> simp [nI]
/-- ranks, as the search keeps them -/
def SE (I : Nat → Nat → Int32) (r : Nat) (S : BS) (n : Nat) : Prop := ∀ c, c < n → I (r + 16) c = nI (rk S n c) ∧ I (r + 17) (rk S n c) = nI c
abbrev st (r : Nat) : Nat → Prop := fun a => r + 19 < a ∧ a ≤ r + 19 + 3
theorem SE.same {I I2 : Nat → Nat → Int32} {r n : Nat} {S : BS} {A : Nat → Prop} (h : SE I r S n) (hs : same I I2 A) (h1 : ¬ A (r + 16)) (h2 : ¬ A (r + 17)) : SE I2 r S n := by
  unfold SE
  rw [hs _ h1, hs _ h2]
  exact h
def ovd (S : BS) (n sh k : Nat) (u : Nat → Bool) : Bool := anyB (fun c => !u c && decide (rk S n c + sh < k)) n
def hpl (S : BS) (o : Nat → Nat) (k n : Nat) : Bool := anyB (fun c => !usd o k c && !decide (sn1 S o k c ≤ bLa S c)) n
section SEARCH
variable {d : Nat} {L : hL} {I : Nat → Nat → Int32} {J : Nat → Nat → Int64} {t : tl} {r b n sn dn sh : Nat} {F : Int32 → hp → Prop} {G : hp → Prop} {N : Nat → hp → Prop} {X : Nat → hp → Prop} {u : Nat → Bool} {x : Int32} {S : BS}
theorem sp_isIn {h : hp} {c : Nat} (hm : MK x u) (hc : c < 10) (k : F (bI (u c)) h) : cal (d + 1) 30 [.int x, .int (nI c)] h (kI F X) := by
  refine e30 (t30_0 ?_)
  rw [MK_get hm hc]
  simp (disch := omega) only [vpT, nI_leI, nI_ltI, nI_eq, nleT, nleF, nltT, nltF, neqT, neqF, nI_add, pk_mul, subN, divN, nI_clamp, mI1, wrH, wrM1, wrM2, wrowH, wrowM, bI0, bI1, kIi, kVi, kRi, kLi, kIx, kVx, Option.some.injEq, exists_eq_left', true_and, and_true, true_implies, false_implies, implies_true, not_true_eq_false, not_false_eq_true, true_or, or_true, false_or, or_false, forall_eq, iteT, iteF, bIu]
  refine ⟨fun q => ?_, fun q => ?_⟩
  · rw [q] at k; exact k
  · rw [btf q] at k; exact k
--facts hR.1, LB_ hR.b, LT_ hR.t, LT_ hR.s
theorem sp_sbegin (hR : LR L r) (hI : BI (bd I (r + 2)) n sn dn) (hu : HU (bd I (r + 2)) n) (k : ∀ I2, same I I2 (fun a => a = r + 16 ∨ a = r + 17 ∨ st r a) → SE I2 r (bd I (r + 2)) n → (∀ o, Tab I2 (r + 19) (bd I (r + 2)) o 0) → G (L, I2, J, t)) : cal (d + 3) 25 [.ref (r + 15)] (L, I, J, t) (kV G X) := by
  have hn := hI.1.2
  refine e25 (t25_0 ?_)
  refine lg (n := n) (fun i l h => ∃ I2, l = [some (.ref (r + 15)), some (.int (nI i))] ∧ h = (L, I2, J, t) ∧ same I I2 (fun a => a = r + 16 ∨ a = r + 17) ∧ ∀ c, c < i → I2 (r + 16) c = nI (rk (bd I (r + 2)) n c) ∧ I2 (r + 17) (rk (bd I (r + 2)) n c) = nI c) ?_ ?_ (Nat.zero_le _) _ _ ⟨I, rfl, rfl, same.rf, fun c hc => by omega⟩
  · rintro i hi ih _ _ ⟨I2, rfl, rfl, hs, hd⟩
    have hb : bd I2 (r + 2) = bd I (r + 2) := hs.bd (fun a h1 h2 => by omega)
    have i0 : I2 (r + 2) 0 = nI n := by rw [hs _ (by omega)]; exact hI.1.1
    have hrk := rk_lt (S := bd I (r + 2)) hi
    refine t25_2 ?_
    simp (disch := omega) only [vpT, nI_leI, nI_ltI, nI_eq, nleT, nleF, nltT, nltF, neqT, neqF, nI_add, pk_mul, subN, divN, nI_clamp, mI1, wrH, wrM1, wrM2, wrowH, wrowM, bI0, bI1, kIi, kVi, kRi, kLi, kIx, kVx, Option.some.injEq, exists_eq_left', true_and, and_true, true_implies, false_implies, implies_true, not_true_eq_false, not_false_eq_true, true_or, or_true, false_or, or_false, forall_eq, iteT, iteF, hR.1, LB_ hR.b, LT_ hR.t, LT_ hR.s, i0]
    refine sp_rankOf (sn := sn) (dn := dn) hR.b (by rw [hb]; exact hI) hi (t25_26 ?_)
    rw [hb]
    simp (disch := omega) only [vpT, nI_leI, nI_ltI, nI_eq, nleT, nleF, nltT, nltF, neqT, neqF, nI_add, pk_mul, subN, divN, nI_clamp, mI1, wrH, wrM1, wrM2, wrowH, wrowM, bI0, bI1, kIi, kVi, kRi, kLi, kIx, kVx, Option.some.injEq, exists_eq_left', true_and, and_true, true_implies, false_implies, implies_true, not_true_eq_false, not_false_eq_true, true_or, or_true, false_or, or_false, forall_eq, iteT, iteF, hR.1, LB_ hR.b, LT_ hR.t, LT_ hR.s]
    refine ih _ _ ⟨_, rfl, rfl, fun a ha => ?_, fun c hc => ?_⟩
    · have : a ≠ r + 16 ∧ a ≠ r + 17 := ⟨fun q => ha (Or.inl q), fun q => ha (Or.inr q)⟩
      simp (disch := omega) only [vpT, nI_leI, nI_ltI, nI_eq, nleT, nleF, nltT, nltF, neqT, neqF, nI_add, pk_mul, subN, divN, nI_clamp, mI1, wrH, wrM1, wrM2, wrowH, wrowM, bI0, bI1, kIi, kVi, kRi, kLi, kIx, kVx, Option.some.injEq, exists_eq_left', true_and, and_true, true_implies, false_implies, implies_true, not_true_eq_false, not_false_eq_true, true_or, or_true, false_or, or_false, forall_eq, iteT, iteF, hR.1, LB_ hR.b, LT_ hR.t, LT_ hR.s]
      exact hs a ha
    · by_cases e : c = i
      · subst e
        simp (disch := omega) only [vpT, nI_leI, nI_ltI, nI_eq, nleT, nleF, nltT, nltF, neqT, neqF, nI_add, pk_mul, subN, divN, nI_clamp, mI1, wrH, wrM1, wrM2, wrowH, wrowM, bI0, bI1, kIi, kVi, kRi, kLi, kIx, kVx, Option.some.injEq, exists_eq_left', true_and, and_true, true_implies, false_implies, implies_true, not_true_eq_false, not_false_eq_true, true_or, or_true, false_or, or_false, forall_eq, iteT, iteF, hR.1, LB_ hR.b, LT_ hR.t, LT_ hR.s]
      · have h1 : rk (bd I (r + 2)) n c ≠ rk (bd I (r + 2)) n i := fun q => e (rk_inj hu c i (by omega) hi q)
        simp (disch := omega) only [vpT, nI_leI, nI_ltI, nI_eq, nleT, nleF, nltT, nltF, neqT, neqF, nI_add, pk_mul, subN, divN, nI_clamp, mI1, wrH, wrM1, wrM2, wrowH, wrowM, bI0, bI1, kIi, kVi, kRi, kLi, kIx, kVx, Option.some.injEq, exists_eq_left', true_and, and_true, true_implies, false_implies, implies_true, not_true_eq_false, not_false_eq_true, true_or, or_true, false_or, or_false, forall_eq, iteT, iteF, hR.1, LB_ hR.b, LT_ hR.t, LT_ hR.s]
        exact hd c (by omega)
  · rintro _ _ ⟨I2, rfl, rfl, hs, hd⟩
    have hb : bd I2 (r + 2) = bd I (r + 2) := hs.bd (fun a h1 h2 => by omega)
    have i0 : I2 (r + 2) 0 = nI n := by rw [hs _ (by omega)]; exact hI.1.1
    refine t25_2 ?_
    simp (disch := omega) only [vpT, nI_leI, nI_ltI, nI_eq, nleT, nleF, nltT, nltF, neqT, neqF, nI_add, pk_mul, subN, divN, nI_clamp, mI1, wrH, wrM1, wrM2, wrowH, wrowM, bI0, bI1, kIi, kVi, kRi, kLi, kIx, kVx, Option.some.injEq, exists_eq_left', true_and, and_true, true_implies, false_implies, implies_true, not_true_eq_false, not_false_eq_true, true_or, or_true, false_or, or_false, forall_eq, iteT, iteF, hR.1, LB_ hR.b, LT_ hR.t, LT_ hR.s, i0]
    refine sp_begin (n := n) (sn := sn) (dn := dn) hR.s hR.b (by omega) (by rw [hb]; exact hI) fun I3 hs3 hd3 => t25_52 ?_
    simp (disch := omega) only [vpT, nI_leI, nI_ltI, nI_eq, nleT, nleF, nltT, nltF, neqT, neqF, nI_add, pk_mul, subN, divN, nI_clamp, mI1, wrH, wrM1, wrM2, wrowH, wrowM, bI0, bI1, kIi, kVi, kRi, kLi, kIx, kVx, Option.some.injEq, exists_eq_left', true_and, and_true, true_implies, false_implies, implies_true, not_true_eq_false, not_false_eq_true, true_or, or_true, false_or, or_false, forall_eq, iteT, iteF, hR.1, LB_ hR.b, LT_ hR.t, LT_ hR.s]
    rw [hb] at hd3
    refine k I3 ((hs.up fun a h => h.elim Or.inl (fun q => Or.inr (Or.inl q))).tr (hs3.up fun a h => Or.inr (Or.inr (by omega)))) ?_ (fun o => ⟨fun j hj => by omega, fun j hj s hs' => ?_⟩)
    · exact SE.same (I := I2) hd hs3 (by omega) (by omega)
    · have : j = 0 := by omega
      subst this
      rw [Nat.zero_mul, Nat.zero_add, hd3 s hs']
      show _ = dn0 (bd I (r + 2)) s (bF (bd I (r + 2)) 14).toNatClampNeg
      rw [bi_dn hI]
theorem sp_pressedAt {p : Nat} (hR : LR L r) (hI : BI (bd I (r + 2)) n sn dn) (hsh : bF (bd I (r + 2)) 11 = nI sh) (hs3 : sh ≤ 3) (hu : HU (bd I (r + 2)) n) (hE : SE I r (bd I (r + 2)) n) (hm : MK x u) (hp : p ≤ 10) (k : ∀ v, (v = -1 ∧ ∀ c, c < n → u c = false → rk (bd I (r + 2)) n c + sh ≠ p) ∨ (∃ c, c < n ∧ v = nI c ∧ u c = false ∧ rk (bd I (r + 2)) n c + sh = p) → F v (L, I, J, t)) : cal (d + 2) 32 [.ref (r + 15), .int (nI p), .int x] (L, I, J, t) (kI F X) := by
  have hn := hI.1.2
  have i0 : I (r + 2) 0 = nI n := hI.1.1
  have i11 : I (r + 2) 11 = nI sh := hsh
  have hrl : ∀ c, c < n → rk (bd I (r + 2)) n c < n := fun c hc => rk_lt hc
  refine e32 (t32_0 ?_)
  simp (disch := omega) only [vpT, nI_leI, nI_ltI, nI_eq, nleT, nleF, nltT, nltF, neqT, neqF, nI_add, pk_mul, subN, divN, nI_clamp, mI1, wrH, wrM1, wrM2, wrowH, wrowM, bI0, bI1, kIi, kVi, kRi, kLi, kIx, kVx, Option.some.injEq, exists_eq_left', true_and, and_true, true_implies, false_implies, implies_true, not_true_eq_false, not_false_eq_true, true_or, or_true, false_or, or_false, forall_eq, iteT, iteF, hR.1, LB_ hR.b, LT_ hR.t, LT_ hR.s, i11, i0, subneg]
  by_cases h1 : p < sh
  · simp (disch := omega) only [vpT, nI_leI, nI_ltI, nI_eq, nleT, nleF, nltT, nltF, neqT, neqF, nI_add, pk_mul, subN, divN, nI_clamp, mI1, wrH, wrM1, wrM2, wrowH, wrowM, bI0, bI1, kIi, kVi, kRi, kLi, kIx, kVx, Option.some.injEq, exists_eq_left', true_and, and_true, true_implies, false_implies, implies_true, not_true_eq_false, not_false_eq_true, true_or, or_true, false_or, or_false, forall_eq, iteT, iteF, hR.1, LB_ hR.b, LT_ hR.t, LT_ hR.s]
    exact k _ (Or.inl ⟨rfl, fun c hc _ => by omega⟩)
  · simp (disch := omega) only [vpT, nI_leI, nI_ltI, nI_eq, nleT, nleF, nltT, nltF, neqT, neqF, nI_add, pk_mul, subN, divN, nI_clamp, mI1, wrH, wrM1, wrM2, wrowH, wrowM, bI0, bI1, kIi, kVi, kRi, kLi, kIx, kVx, Option.some.injEq, exists_eq_left', true_and, and_true, true_implies, false_implies, implies_true, not_true_eq_false, not_false_eq_true, true_or, or_true, false_or, or_false, forall_eq, iteT, iteF, hR.1, LB_ hR.b, LT_ hR.t, LT_ hR.s]
    refine ⟨fun h2 => ?_, fun h2 => ?_⟩
    · exact k _ (Or.inl ⟨rfl, fun c hc _ => by have := hrl c hc; omega⟩)
    · obtain ⟨c, hc, ec⟩ := pigeon hrl (rk_inj hu) (p - sh) (by omega)
      have e1 : I (r + 17) (p - sh) = nI c := by rw [← ec]; exact (hE c hc).2
      simp (disch := omega) only [vpT, nI_leI, nI_ltI, nI_eq, nleT, nleF, nltT, nltF, neqT, neqF, nI_add, pk_mul, subN, divN, nI_clamp, mI1, wrH, wrM1, wrM2, wrowH, wrowM, bI0, bI1, kIi, kVi, kRi, kLi, kIx, kVx, Option.some.injEq, exists_eq_left', true_and, and_true, true_implies, false_implies, implies_true, not_true_eq_false, not_false_eq_true, true_or, or_true, false_or, or_false, forall_eq, iteT, iteF, hR.1, LB_ hR.b, LT_ hR.t, LT_ hR.s, e1]
      refine sp_isIn hm (by omega) (t32_35 ?_)
      simp (disch := omega) only [vpT, nI_leI, nI_ltI, nI_eq, nleT, nleF, nltT, nltF, neqT, neqF, nI_add, pk_mul, subN, divN, nI_clamp, mI1, wrH, wrM1, wrM2, wrowH, wrowM, bI0, bI1, kIi, kVi, kRi, kLi, kIx, kVx, Option.some.injEq, exists_eq_left', true_and, and_true, true_implies, false_implies, implies_true, not_true_eq_false, not_false_eq_true, true_or, or_true, false_or, or_false, forall_eq, iteT, iteF, hR.1, LB_ hR.b, LT_ hR.t, LT_ hR.s, e1]
      refine ⟨fun q => ?_, fun q => ?_⟩
      · exact k _ (Or.inr ⟨c, hc, rfl, q, by omega⟩)
      · refine k _ (Or.inl ⟨rfl, fun c' hc' hu' q' => ?_⟩)
        rw [rk_inj hu c' c hc' hc (by omega)] at hu'
        exact q hu'
theorem sp_sisNear {c p : Nat} {v : Int32} (hR : LR L r) (hI : BI (bd I (r + 2)) n sn dn) (hsh : bF (bd I (r + 2)) 11 = nI sh) (hs3 : sh ≤ 3) (hE : SE I r (bd I (r + 2)) n) (hc : c < n) (hp : p ≤ 10) (k : F (bI (if v = -1 then near (bd I (r + 2)) n sh c p else decide (nI c = v))) (L, I, J, t)) : cal (d + 1) 33 [.ref (r + 15), .int (nI c), .int (nI p), .int v] (L, I, J, t) (kI F X) := by
  have hn := hI.1.2
  have i11 : I (r + 2) 11 = nI sh := hsh
  have hrl := rk_lt (S := bd I (r + 2)) hc
  refine e33 (t33_0 ?_)
  simp (disch := omega) only [vpT, nI_clamp, hR.1, LB_ hR.b, (hE c hc).1, i11, sublt, sublt2, kIi, Option.some.injEq, exists_eq_left', true_and]
  refine ⟨fun h => ⟨fun h1 => ?_, fun h1 => ⟨fun h2 => ?_, fun h2 => ?_⟩⟩, fun h => ⟨fun h1 => ?_, fun h1 => ?_⟩⟩
  · rw [if_pos h, show near (bd I (r + 2)) n sh c p = false from decide_eq_false (by omega)] at k; exact k
  · rw [if_pos h, show near (bd I (r + 2)) n sh c p = false from decide_eq_false (by omega)] at k; exact k
  · rw [if_pos h, show near (bd I (r + 2)) n sh c p = true from decide_eq_true (by omega)] at k; exact k
  · rw [if_neg h, decide_eq_false h1] at k; exact k
  · rw [if_neg h, decide_eq_true h1] at k; exact k
theorem sp_overdue {p : Nat} (hR : LR L r) (hI : BI (bd I (r + 2)) n sn dn) (hsh : bF (bd I (r + 2)) 11 = nI sh) (hs3 : sh ≤ 3) (hE : SE I r (bd I (r + 2)) n) (hm : MK x u) (hp : p ≤ 10) (k : F (bI (ovd (bd I (r + 2)) n sh p u)) (L, I, J, t)) : cal (d + 2) 29 [.ref (r + 15), .int (nI p), .int x] (L, I, J, t) (kI F X) := by
  have hn := hI.1.2
  have i0 : I (r + 2) 0 = nI n := hI.1.1
  have i11 : I (r + 2) 11 = nI sh := hsh
  refine e29 (t29_0 ?_)
  refine lqP (n := n) (fun i => anyB (fun c => !u c && decide (rk (bd I (r + 2)) n c + sh < p)) i = false) (fun i => [some (.ref (r + 15)), some (.int (nI p)), some (.int x), some (.int (nI i))]) rfl (fun i hi hd ih => t29_2 ?_) (fun hd => t29_2 ?_)
  · simp (disch := omega) only [vpT, nI_leI, nI_ltI, nI_eq, nleT, nleF, nltT, nltF, neqT, neqF, nI_add, pk_mul, subN, divN, nI_clamp, mI1, wrH, wrM1, wrM2, wrowH, wrowM, bI0, bI1, kIi, kVi, kRi, kLi, kIx, kVx, Option.some.injEq, exists_eq_left', true_and, and_true, true_implies, false_implies, implies_true, not_true_eq_false, not_false_eq_true, true_or, or_true, false_or, or_false, forall_eq, iteT, iteF, hR.1, LB_ hR.b, LT_ hR.t, LT_ hR.s, i0]
    refine sp_isIn hm (by omega) (t29_18 ?_)
    have hrl := rk_lt (S := bd I (r + 2)) hi
    simp (disch := omega) only [vpT, nI_clamp, hR.1, LB_ hR.b, (hE i hi).1, i11, suble, bI0, nI_add, kIi, Option.some.injEq, exists_eq_left', true_and]
    have e1 : anyB (fun c => !u c && decide (rk (bd I (r + 2)) n c + sh < p)) (i + 1) = (anyB (fun c => !u c && decide (rk (bd I (r + 2)) n c + sh < p)) i || (!u i && decide (rk (bd I (r + 2)) n i + sh < p))) := rfl
    rw [hd] at e1
    refine ⟨fun h => ih ?_, fun h => ⟨fun h1 => ih ?_, fun h1 => ?_⟩⟩
    · rw [e1, btf h]; rfl
    · rw [e1, h, decide_eq_false (by omega)]; rfl
    · rw [show ovd (bd I (r + 2)) n sh p u = true from anyB_iff.mpr ⟨i, hi, by rw [h, decide_eq_true (by omega)]; rfl⟩] at k
      exact k
  · simp (disch := omega) only [vpT, nI_leI, nI_ltI, nI_eq, nleT, nleF, nltT, nltF, neqT, neqF, nI_add, pk_mul, subN, divN, nI_clamp, mI1, wrH, wrM1, wrM2, wrowH, wrowM, bI0, bI1, kIi, kVi, kRi, kLi, kIx, kVx, Option.some.injEq, exists_eq_left', true_and, and_true, true_implies, false_implies, implies_true, not_true_eq_false, not_false_eq_true, true_or, or_true, false_or, or_false, forall_eq, iteT, iteF, hR.1, LB_ hR.b, LT_ hR.t, LT_ hR.s, i0]
    unfold ovd at k
    rw [hd] at k
    exact k
theorem sp_mayStand {o : Nat → Nat} {p c : Nat} {hd : Bool} (hR : LR L r) (hI : BI (bd I (r + 2)) n sn dn) (hh : I (r + 15) 7 = bI hd) (hp : p < 10) (hc : c < n) (ho : o p = c) (hT : hd = true → Tab I (r + 19) (bd I (r + 2)) o p) (k : ∀ I2, same I I2 (st r) → (hd = true → Tab I2 (r + 19) (bd I (r + 2)) o (p + 1)) → F (bI (!hd || decide (slt (bd I (r + 2)) o p ≤ bLa (bd I (r + 2)) c))) (L, I2, J, t)) : cal (d + 3) 28 [.ref (r + 15), .int (nI p), .int (nI c)] (L, I, J, t) (kI F X) := by
  have hn := hI.1.2
  refine e28 (t28_0 ?_)
  simp (disch := omega) only [vpT, nI_leI, nI_ltI, nI_eq, nleT, nleF, nltT, nltF, neqT, neqF, nI_add, pk_mul, subN, divN, nI_clamp, mI1, wrH, wrM1, wrM2, wrowH, wrowM, bI0, bI1, kIi, kVi, kRi, kLi, kIx, kVx, Option.some.injEq, exists_eq_left', true_and, and_true, true_implies, false_implies, implies_true, not_true_eq_false, not_false_eq_true, true_or, or_true, false_or, or_false, forall_eq, iteT, iteF, hR.1, LB_ hR.b, LT_ hR.t, LT_ hR.s, hh]
  refine ⟨fun h => ?_, fun h => ?_⟩
  · have := k I same.rf (fun q => by rw [h] at q; cases q)
    rw [h] at this
    exact this
  · have h' := btf h
    refine sp_put (o := o) hR.s hR.b (by omega) hI hp hc ho (hT h') fun I2 hs2 hT2 => t28_16 ?_
    have e3 : I2 (r + 2 + 3) c = bLa (bd I (r + 2)) c := by rw [hs2 _ (by omega)]; rfl
    have := k I2 hs2 (fun _ => hT2)
    rw [h'] at this
    simp (disch := omega) only [vpT, nI_leI, nI_ltI, nI_eq, nleT, nleF, nltT, nltF, neqT, neqF, nI_add, pk_mul, subN, divN, nI_clamp, mI1, wrH, wrM1, wrM2, wrowH, wrowM, bI0, bI1, kIi, kVi, kRi, kLi, kIx, kVx, Option.some.injEq, exists_eq_left', true_and, and_true, true_implies, false_implies, implies_true, not_true_eq_false, not_false_eq_true, true_or, or_true, false_or, or_false, forall_eq, iteT, iteF, hR.1, LB_ hR.b, LT_ hR.t, LT_ hR.s, e3]
    refine ⟨fun h1 => ?_, fun h1 => ?_⟩
    · rw [decide_eq_false (Int32.not_le.mpr h1)] at this; exact this
    · rw [decide_eq_true (Int32.not_lt.mp h1)] at this; exact this
theorem sp_atLeast {o : Nat → Nat} {p : Nat} {y : Int32} (hR : LR L r) (hI : BI (bd I (r + 2)) n sn dn) (hy : I (r + 15) 5 = y) (hp : p ≤ 10) (hT : Tab I (r + 19) (bd I (r + 2)) o p) (hm : MK x (usd o p)) (k : F (if hpl (bd I (r + 2)) o p n then nI 2147483647 else atl (bd I (r + 2)) o y p n) (L, I, J, t)) : cal (d + 2) 127 [.ref (r + 15), .int (nI p), .int x, .int (cst (bd I (r + 2)) o y p)] (L, I, J, t) (kI F X) := by
  have hn := hI.1.2
  have i0 : I (r + 2) 0 = nI n := hI.1.1
  refine e127 (t127_0 ?_)
  refine lg (n := n) (fun i l h => ∃ l6, l = [some (.ref (r + 15)), some (.int (nI p)), some (.int x), some (.int (cst (bd I (r + 2)) o y p)), some (.int (atl (bd I (r + 2)) o y p i)), some (.int (nI i)), l6] ∧ h = (L, I, J, t) ∧ anyB (fun c => !usd o p c && !decide (sn1 (bd I (r + 2)) o p c ≤ bLa (bd I (r + 2)) c)) i = false) ?_ ?_ (Nat.zero_le _) _ _ ⟨_, rfl, rfl, rfl⟩
  · rintro i hi ih _ _ ⟨l6, rfl, rfl, hd⟩
    refine t127_6 ?_
    simp (disch := omega) only [vpT, nI_leI, nI_ltI, nI_eq, nleT, nleF, nltT, nltF, neqT, neqF, nI_add, pk_mul, subN, divN, nI_clamp, mI1, wrH, wrM1, wrM2, wrowH, wrowM, bI0, bI1, kIi, kVi, kRi, kLi, kIx, kVx, Option.some.injEq, exists_eq_left', true_and, and_true, true_implies, false_implies, implies_true, not_true_eq_false, not_false_eq_true, true_or, or_true, false_or, or_false, forall_eq, iteT, iteF, hR.1, LB_ hR.b, LT_ hR.t, LT_ hR.s, i0]
    refine sp_isIn hm (by omega) (t127_24 ?_)
    simp (disch := omega) only [vpT, nI_leI, nI_ltI, nI_eq, nleT, nleF, nltT, nltF, neqT, neqF, nI_add, pk_mul, subN, divN, nI_clamp, mI1, wrH, wrM1, wrM2, wrowH, wrowM, bI0, bI1, kIi, kVi, kRi, kLi, kIx, kVx, Option.some.injEq, exists_eq_left', true_and, and_true, true_implies, false_implies, implies_true, not_true_eq_false, not_false_eq_true, true_or, or_true, false_or, or_false, forall_eq, iteT, iteF, hR.1, LB_ hR.b, LT_ hR.t, LT_ hR.s]
    have e1 : anyB (fun c => !usd o p c && !decide (sn1 (bd I (r + 2)) o p c ≤ bLa (bd I (r + 2)) c)) (i + 1) = (anyB (fun c => !usd o p c && !decide (sn1 (bd I (r + 2)) o p c ≤ bLa (bd I (r + 2)) c)) i || (!usd o p i && !decide (sn1 (bd I (r + 2)) o p i ≤ bLa (bd I (r + 2)) i))) := rfl
    rw [hd] at e1
    have e2 : atl (bd I (r + 2)) o y p (i + 1) = if usd o p i then atl (bd I (r + 2)) o y p i else cw (bd I (r + 2)) y (atl (bd I (r + 2)) o y p i) i (sn1 (bd I (r + 2)) o p i) := rfl
    refine ⟨fun h => ?_, fun h => ?_⟩
    · rw [h] at e2
      refine sp_soonest (o := o) hR.s hR.b hI hp hi hT (t127_40 ?_)
      have e3 : I (r + 2 + 3) i = bLa (bd I (r + 2)) i := rfl
      rw [show mx2 (bRe (bd I (r + 2)) i) (lst (bd I (r + 2)) o p (bSo (bd I (r + 2)) i).toNatClampNeg) = sn1 (bd I (r + 2)) o p i from rfl]
      simp (disch := omega) only [vpT, nI_leI, nI_ltI, nI_eq, nleT, nleF, nltT, nltF, neqT, neqF, nI_add, pk_mul, subN, divN, nI_clamp, mI1, wrH, wrM1, wrM2, wrowH, wrowM, bI0, bI1, kIi, kVi, kRi, kLi, kIx, kVx, Option.some.injEq, exists_eq_left', true_and, and_true, true_implies, false_implies, implies_true, not_true_eq_false, not_false_eq_true, true_or, or_true, false_or, or_false, forall_eq, iteT, iteF, hR.1, LB_ hR.b, LT_ hR.t, LT_ hR.s, e3, hy]
      refine ⟨fun h1 => ?_, fun h1 => ?_⟩
      · refine sp_costWith hR.s hR.b (by omega) (t127_77 ?_)
        simp (disch := omega) only [vpT, nI_leI, nI_ltI, nI_eq, nleT, nleF, nltT, nltF, neqT, neqF, nI_add, pk_mul, subN, divN, nI_clamp, mI1, wrH, wrM1, wrM2, wrowH, wrowM, bI0, bI1, kIi, kVi, kRi, kLi, kIx, kVx, Option.some.injEq, exists_eq_left', true_and, and_true, true_implies, false_implies, implies_true, not_true_eq_false, not_false_eq_true, true_or, or_true, false_or, or_false, forall_eq, iteT, iteF, hR.1, LB_ hR.b, LT_ hR.t, LT_ hR.s]
        refine ih _ _ ⟨_, by rw [e2]; rfl, rfl, ?_⟩
        rw [e1, decide_eq_true h1, h]; rfl
      · rw [show hpl (bd I (r + 2)) o p n = true from anyB_iff.mpr ⟨i, hi, by rw [h, decide_eq_false h1]; rfl⟩] at k
        exact k
    · rw [btf h] at e2 e1
      exact ih _ _ ⟨_, by rw [e2]; rfl, rfl, e1⟩
  · rintro _ _ ⟨l6, rfl, rfl, hd⟩
    refine t127_6 ?_
    simp (disch := omega) only [vpT, nI_leI, nI_ltI, nI_eq, nleT, nleF, nltT, nltF, neqT, neqF, nI_add, pk_mul, subN, divN, nI_clamp, mI1, wrH, wrM1, wrM2, wrowH, wrowM, bI0, bI1, kIi, kVi, kRi, kLi, kIx, kVx, Option.some.injEq, exists_eq_left', true_and, and_true, true_implies, false_implies, implies_true, not_true_eq_false, not_false_eq_true, true_or, or_true, false_or, or_false, forall_eq, iteT, iteF, hR.1, LB_ hR.b, LT_ hR.t, LT_ hR.s, i0]
    unfold hpl at k
    rw [hd] at k
    exact k
end SEARCH
