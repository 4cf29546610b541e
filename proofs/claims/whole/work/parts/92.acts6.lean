/-! The law's calls: plan, around, goOn, undo. -/
theorem RL_pss {sl : Nat → Int32} {n dn : Nat} {S : BS} (h : ∀ k, k < n → bRe S k ≤ bLa S k) : ∀ {D : Nat} {S' : BS}, D ≤ n → Pss sl n dn D S S' → ∀ k, k < n - D → bRe S' k ≤ bLa S' k
  | 0, S', _, hp => by rw [show S' = S from hp]; exact h
  | D + 1, S', hD, hp => by
    obtain ⟨S1, T1, q1, q2, q3⟩ := hp
    have ih := RL_pss h (show D ≤ n by omega) q1
    intro k hk
    have := q3.2.1 k (by omega)
    rw [this.2.1, this.2.2.1, q2.2.1.2.1, q2.2.1.2.2.1]
    exact ih _ (sk_lt (by omega))
theorem mn_int (a b : Int32) : (mn a b).toInt = min a.toInt b.toInt := by
  unfold mn
  split <;> rename_i q <;> rw [Int32.lt_iff_toInt_lt] at q <;> omega
theorem mx_int (a b : Int32) : (mx a b).toInt = max a.toInt b.toInt := by
  unfold mx
  split <;> rename_i q <;> rw [Int32.lt_iff_toInt_lt] at q <;> omega
theorem VL.snd {S S' : BS} {n sn dn c p v : Nat} (h : VL S n sn dn) (hp : p < n) (hc : ordN S p = c) (hv : v ≤ 99) (hS : Snd S S' n c p (nI v)) : VL S' n sn dn := by
  have hol := BI_or h.1.1
  have hn := h.1.1.1.2
  have hcn : c < n := by rw [← hc]; exact (hol p hp).2
  have q := slt_up h.1.1 h.1.2.2.1 (k := p) (o := ordN S) (by omega) (fun i hi => (hol i (by omega)).2)
  obtain ⟨f, k1, ⟨k2, k3⟩, kr, e1, e2, e3, e4, e5, e6, e7, e8, e9⟩ := hS
  have hr : (bRe S' c).toInt = min ((slt S (ordN S) p).toInt + v) 999 := by
    rw [k2, mn_int, Int32.toInt_add, nIi (by omega), nIi (by omega), Int.bmod_eq_of_le (by omega) (by omega)]
    rfl
  have hl : bRe S' c ≤ bLa S' c := by
    rw [Int32.le_iff_toInt_le, k3, mn_int, mx_int, ← k2, hr, nIi (by omega)]
    omega
  obtain ⟨⟨hb, hP, ⟨v0, v1, v2, v3, v4, v5⟩, hu, sh, s1, s2⟩, hL⟩ := h
  have ml : ∀ j, j < n → mvd (ordN S) p (n - 1) j < n := fun j hj => mvd_lt (fun j hj => (hol j hj).2) hp (by omega) hj
  refine ⟨⟨BI_ord hb (by rw [f]) (by rw [f]) (by rw [f]) e1 e7 kr ml, PI_ord hn kr ml (mvd_inj hp (by omega) hP), ⟨v0, fun k hk => ?_, by rw [e4]; exact v2, by rw [e6]; exact v3, by rw [f]; exact v4, by rw [e8]; exact v5⟩, by unfold HU; rw [e3]; exact hu, sh, s1, by rw [f]; exact s2⟩, fun k hk => ?_⟩
  · rw [e2]
    by_cases ek : k = c
    · have := v1 k hk
      rw [ek] at this ⊢
      rw [hr]
      omega
    · rw [(k1 k ek).1]
      exact v1 k hk
  · by_cases ek : k = c
    · rw [ek]; exact hl
    · rw [(k1 k ek).1, (k1 k ek).2]; exact hL k hk
section CALLS6
variable {I0 I I2 I3 I5 : Nat → Nat → Int32} {J J2 : Nat → Nat → Int64} {L : hL} {x n sn dn ac fi tp sd c : Nat} {t : tl} {F : Int32 → hp → Prop} {G : hp → Prop} {X : Nat → hp → Prop} {d e z l : Nat} {ex : Bool}
--facts LK_ hK, LM_ hK.m, LB_ hK.b
theorem P_plan {p1 : Int32} (hK : LK L x) (h : SX I0 I x n sn dn ac fi tp sd) : PR I0 L x 147 237 0 9 d e [.int p1] I J z l ex := by
  have hn := h.n10
  have hs4 := h.i.2.1.2
  have hd20 := h.i.2.2.1.2
  have hol := BI_or h.i
  obtain ⟨sh, hs3, hsh⟩ := h.v.2.2.2.2
  have m2 : I (x + 271 + 1) 2 = nI sh := h.r.1.2.2.1.trans hsh
  refine e147 (t147_0 ?_)
  refine sp_checkArgument (fun q => Or.inl ⟨rfl, (by unfold NE9; decide), I, J, rfl, (by first | exact h.2.2.2.2 | exact fun a ha => (em a (Or.inr ha)).trans (h.2.2.2.2 a ha) | exact fun a ha => (em2 a (Or.inr ha)).trans (h.2.2.2.2 a ha) | exact fun a ha => (hs a (by omega)).trans (h.2.2.2.2 a ha) | exact fun a ha => (wrM1 (by omega)).trans ((em a (Or.inr ha)).trans (h.2.2.2.2 a ha)) | exact fun a ha => (e3 a (by omega)).trans ((em a (Or.inr ha)).trans (h.2.2.2.2 a ha)) | exact fun a ha => (cs a (by omega) (by omega)).trans (h.2.2.2.2 a ha) | exact fun a ha => (hs2 a (by omega)).trans (h.2.2.2.2 a ha) | exact fun a ha => (e3 a (by omega) (by omega)).trans (h.2.2.2.2 a ha) | exact fun a ha => (e3 a (by omega) (by omega) (by omega) (by omega)).trans (h.2.2.2.2 a ha) | exact fun a ha => (hs5 a (by omega)).trans ((hs4' a (by omega)).trans ((hs3' a (by omega)).trans ((hs2 a (by omega)).trans (h.2.2.2.2 a ha))))), fun J2 => e237 (t237_0 ?_)⟩) (fun q1 q2 => t147_6 ?_)
  · simp (disch := omega) only [vpT, nI_leI, nI_ltI, nI_eq, nleT, nleF, nltT, nltF, neqT, neqF, nI_add, pk_mul, subN, divN, nI_clamp, mI1, wrH, wrM1, wrM2, wrowH, wrowM, bI0, bI1, kIi, kVi, kRi, kLi, kIx, kVx, Option.some.injEq, exists_eq_left', true_and, and_true, true_implies, false_implies, implies_true, not_true_eq_false, not_false_eq_true, true_or, or_true, false_or, or_false, forall_eq, iteT, iteF, LK_ hK, LM_ hK.m, LB_ hK.b]
    refine mp_isCostF q (t237_10 ?_)
    simp (disch := omega) only [vpT, nI_leI, nI_ltI, nI_eq, nleT, nleF, nltT, nltF, neqT, neqF, nI_add, pk_mul, subN, divN, nI_clamp, mI1, wrH, wrM1, wrM2, wrowH, wrowM, bI0, bI1, kIi, kVi, kRi, kLi, kIx, kVx, Option.some.injEq, exists_eq_left', true_and, and_true, true_implies, false_implies, implies_true, not_true_eq_false, not_false_eq_true, true_or, or_true, false_or, or_false, forall_eq, iteT, iteF, LK_ hK, LM_ hK.m, LB_ hK.b]
    refine mp_rightF hK.m (wrH rfl rfl) (by decide) (by decide) (t237_14 ?_)
    simp (disch := omega) only [vpT, nI_leI, nI_ltI, nI_eq, nleT, nleF, nltT, nltF, neqT, neqF, nI_add, pk_mul, subN, divN, nI_clamp, mI1, wrH, wrM1, wrM2, wrowH, wrowM, bI0, bI1, kIi, kVi, kRi, kLi, kIx, kVx, Option.some.injEq, exists_eq_left', true_and, and_true, true_implies, false_implies, implies_true, not_true_eq_false, not_false_eq_true, true_or, or_true, false_or, or_false, forall_eq, iteT, iteF, LK_ hK, LM_ hK.m, LB_ hK.b]
    exact ff h same.rf rfl
  simp (disch := omega) only [vpT, nI_leI, nI_ltI, nI_eq, nleT, nleF, nltT, nltF, neqT, neqF, nI_add, pk_mul, subN, divN, nI_clamp, mI1, wrH, wrM1, wrM2, wrowH, wrowM, bI0, bI1, kIi, kVi, kRi, kLi, kIx, kVx, Option.some.injEq, exists_eq_left', true_and, and_true, true_implies, false_implies, implies_true, not_true_eq_false, not_false_eq_true, true_or, or_true, false_or, or_false, forall_eq, iteT, iteF, LK_ hK, LM_ hK.m, LB_ hK.b]
  refine sp_bestCost (T := 1999) hK.r h.i h.v.2.2.1 h.v.2.2.2.1 h.v.2.1 hsh hs3 fun I2 v hs2 hF => t147_14 ?_
  have em2 : ∀ a, x + 271 ≤ a ∨ a < x → I2 a = I a := fun a ha => hs2 a (by omega)
  have pre : ∀ I3 J2 t F, (∀ a, x + 271 ≤ a ∨ a < x → I3 a = I a) → (∀ I4, same (wr I3 (x + 271) 0 (nI 0)) I4 (mt (x + 271)) → (∀ j, j < 20 ∨ 24 < j → I4 (x + 271) j = wr I3 (x + 271) 0 (nI 0) (x + 271) j) → ((v = -1 ∧ I4 (x + 271) 20 = nI 1000000000) ∨ (¬ v = -1 ∧ I4 (x + 271) 20 = v ∧ ¬ I4 (x + 271) 20 = nI 1000000000 ∧ ∃ o, Leaf (bd I (x + 1 + 2)) n (frz (bd I (x + 1 + 2)) n) sh true o ∧ ROW (I2 (x + 1 + 18)) o n ∧ ROW (I4 (x + 271 + 8)) o n)) → Wp (cal (e + 39)) kc_237 [] F (31, [some (.ref (x + 271)), some (.int p1), none], [], (L, I4, J2, t))) → cal (e + 40) 237 [.ref (x + 271), .int p1] (L, I3, J2, t) F := by
    intro I3 J2 t F em kk
    refine e237 (t237_0 ?_)
    simp (disch := omega) only [vpT, nI_leI, nI_ltI, nI_eq, nleT, nleF, nltT, nltF, neqT, neqF, nI_add, pk_mul, subN, divN, nI_clamp, mI1, wrH, wrM1, wrM2, wrowH, wrowM, bI0, bI1, kIi, kVi, kRi, kLi, kIx, kVx, Option.some.injEq, exists_eq_left', true_and, and_true, true_implies, false_implies, implies_true, not_true_eq_false, not_false_eq_true, true_or, or_true, false_or, or_false, forall_eq, iteT, iteF, LK_ hK, LM_ hK.m, LB_ hK.b]
    refine mp_isCostT ⟨q1, q2⟩ (t237_10 ?_)
    simp (disch := omega) only [vpT, nI_leI, nI_ltI, nI_eq, nleT, nleF, nltT, nltF, neqT, neqF, nI_add, pk_mul, subN, divN, nI_clamp, mI1, wrH, wrM1, wrM2, wrowH, wrowM, bI0, bI1, kIi, kVi, kRi, kLi, kIx, kVx, Option.some.injEq, exists_eq_left', true_and, and_true, true_implies, false_implies, implies_true, not_true_eq_false, not_false_eq_true, true_or, or_true, false_or, or_false, forall_eq, iteT, iteF, LK_ hK, LM_ hK.m, LB_ hK.b]
    refine mp_rightT hK.m (wrH rfl rfl) (t237_14 ?_)
    simp (disch := omega) only [vpT, nI_leI, nI_ltI, nI_eq, nleT, nleF, nltT, nltF, neqT, neqF, nI_add, pk_mul, subN, divN, nI_clamp, mI1, wrH, wrM1, wrM2, wrowH, wrowM, bI0, bI1, kIi, kVi, kRi, kLi, kIx, kVx, Option.some.injEq, exists_eq_left', true_and, and_true, true_implies, false_implies, implies_true, not_true_eq_false, not_false_eq_true, true_or, or_true, false_or, or_false, forall_eq, iteT, iteF, LK_ hK, LM_ hK.m, LB_ hK.b, em, m2]
    refine mp_finds (S := bd I (x + 1 + 2)) (n := n) (sn := sn) (dn := dn) (T := 1999) (sh := sh) (hd := true) (y := p1) hK.m (by rw [wrM1 (by omega), em _ (by omega)]; exact h.r) h.i h.v.2.2.1 hs3 hol fun I4 hs4' hf4 hB4 _ => ?_
    obtain ⟨g0, hB4⟩ := hB4 rfl
    refine kk I4 hs4' hf4 ?_
    rcases find_same h.i h.v.2.2.1 hF hB4 with ⟨z1, z2, z3⟩ | ⟨z1, z2, z3, o', z4, z5, z6⟩
    · exact Or.inl ⟨z1, z2⟩
    · exact Or.inr ⟨z3, z1.symm, z2, o', z4, z5, z6⟩
  by_cases hv : v = -1
  · subst hv
    refine ⟨fun _ => t147_54 ?_, fun q => absurd rfl q⟩
    simp (disch := omega) only [vpT, nI_leI, nI_ltI, nI_eq, nleT, nleF, nltT, nltF, neqT, neqF, nI_add, pk_mul, subN, divN, nI_clamp, mI1, wrH, wrM1, wrM2, wrowH, wrowM, bI0, bI1, kIi, kVi, kRi, kLi, kIx, kVx, Option.some.injEq, exists_eq_left', true_and, and_true, true_implies, false_implies, implies_true, not_true_eq_false, not_false_eq_true, true_or, or_true, false_or, or_false, forall_eq, iteT, iteF, LK_ hK, LM_ hK.m, LB_ hK.b]
    refine ⟨I2, J, rfl, (by first | exact h.2.2.2.2 | exact fun a ha => (em a (Or.inr ha)).trans (h.2.2.2.2 a ha) | exact fun a ha => (em2 a (Or.inr ha)).trans (h.2.2.2.2 a ha) | exact fun a ha => (hs a (by omega)).trans (h.2.2.2.2 a ha) | exact fun a ha => (wrM1 (by omega)).trans ((em a (Or.inr ha)).trans (h.2.2.2.2 a ha)) | exact fun a ha => (e3 a (by omega)).trans ((em a (Or.inr ha)).trans (h.2.2.2.2 a ha)) | exact fun a ha => (cs a (by omega) (by omega)).trans (h.2.2.2.2 a ha) | exact fun a ha => (hs2 a (by omega)).trans (h.2.2.2.2 a ha) | exact fun a ha => (e3 a (by omega) (by omega)).trans (h.2.2.2.2 a ha) | exact fun a ha => (e3 a (by omega) (by omega) (by omega) (by omega)).trans (h.2.2.2.2 a ha) | exact fun a ha => (hs5 a (by omega)).trans ((hs4' a (by omega)).trans ((hs3' a (by omega)).trans ((hs2 a (by omega)).trans (h.2.2.2.2 a ha))))), fun J2 => pre _ _ _ _ em2 fun I4 hs4' hf4 hr => t237_31 ?_⟩
    have hr := (hr.resolve_right fun q => q.1 rfl).2
    simp (disch := omega) only [vpT, nI_leI, nI_ltI, nI_eq, nleT, nleF, nltT, nltF, neqT, neqF, nI_add, pk_mul, subN, divN, nI_clamp, mI1, wrH, wrM1, wrM2, wrowH, wrowM, bI0, bI1, kIi, kVi, kRi, kLi, kIx, kVx, Option.some.injEq, exists_eq_left', true_and, and_true, true_implies, false_implies, implies_true, not_true_eq_false, not_false_eq_true, true_or, or_true, false_or, or_false, forall_eq, iteT, iteF, LK_ hK, LM_ hK.m, LB_ hK.b, hr]
    exact f2 h (hs2.up fun a ha => by omega) (em2 _ (by omega)) (hs4'.up fun a ha => by omega) (by rw [hs4' _ (by omega), wrM1 (by omega)]) (by rw [hs4' _ (by omega), wrM1 (by omega)]) (fun j hj => hf4 j (by omega))
  · refine ⟨fun q => absurd q hv, fun _ => ?_⟩
    obtain ⟨f0, L1, hB, ev⟩ := hF
    have hL1 : ¬ L1 = nI 2147483647 := fun q => hv (by rw [ev, if_pos q])
    obtain ⟨o, ho1, ho2, ho3, ho4, ho5⟩ := hB.resolve_left fun q => hL1 q.1
    simp (disch := omega) only [vpT, nI_leI, nI_ltI, nI_eq, nleT, nleF, nltT, nltF, neqT, neqF, nI_add, pk_mul, subN, divN, nI_clamp, mI1, wrH, wrM1, wrM2, wrowH, wrowM, bI0, bI1, kIi, kVi, kRi, kLi, kIx, kVx, Option.some.injEq, exists_eq_left', true_and, and_true, true_implies, false_implies, implies_true, not_true_eq_false, not_false_eq_true, true_or, or_true, false_or, or_false, forall_eq, iteT, iteF, LK_ hK, LM_ hK.m, LB_ hK.b]
    refine sp_kp hK h (fun a r1 r2 r3 => hs2 a (by omega)) fun I3 fi' s hC hs3' => t147_34 ?_
    simp (disch := omega) only [vpT, nI_leI, nI_ltI, nI_eq, nleT, nleF, nltT, nltF, neqT, neqF, nI_add, pk_mul, subN, divN, nI_clamp, mI1, wrH, wrM1, wrM2, wrowH, wrowM, bI0, bI1, kIi, kVi, kRi, kLi, kIx, kVx, Option.some.injEq, exists_eq_left', true_and, and_true, true_implies, false_implies, implies_true, not_true_eq_false, not_false_eq_true, true_or, or_true, false_or, or_false, forall_eq, iteT, iteF, LK_ hK, LM_ hK.m, LB_ hK.b]
    refine sp_setOrder hK.b (LK_ hK).2.1.2.2.2.2.2.2.2.1 (LK_ hK).2.1.2.2.2.2.2.2.2.2.1 (t147_54 ?_)
    simp (disch := omega) only [vpT, nI_leI, nI_ltI, nI_eq, nleT, nleF, nltT, nltF, neqT, neqF, nI_add, pk_mul, subN, divN, nI_clamp, mI1, wrH, wrM1, wrM2, wrowH, wrowM, bI0, bI1, kIi, kVi, kRi, kLi, kIx, kVx, Option.some.injEq, exists_eq_left', true_and, and_true, true_implies, false_implies, implies_true, not_true_eq_false, not_false_eq_true, true_or, or_true, false_or, or_false, forall_eq, iteT, iteF, LK_ hK, LM_ hK.m, LB_ hK.b]
    have hr18 : I3 (x + 1 + 18) = I2 (x + 1 + 18) := hs3' _ (by omega)
    generalize hI4 : wrow I3 (x + 1 + 2 + 6) (va_cpy (I3 (x + 1 + 18)) (I3 (x + 1 + 2 + 6)) 0 0 10) = I4
    have e4 : ∀ a, a ≠ x + 1 + 2 + 6 → I4 a = I3 a := fun a ha => by rw [← hI4, wrowM ha]
    have hr4 : ROW (I4 (x + 1 + 2 + 6)) o n := fun k hk => by rw [← hI4, wrowH rfl, sb_cpy0 (by omega), hr18]; exact ho4 k hk
    have hO : Oth (bd I (x + 1 + 2)) (bd I4 (x + 1 + 2)) n _ := Oth_of (fun a r1 r2 r3 => by rw [e4 a (by omega), hs3' a (by omega), hs2 a (by omega)]) hr4
    have em : ∀ a, x + 271 ≤ a ∨ a < x → I4 a = I a := fun a ha => by rw [e4 a (by omega), hs3' a (by have := hC.1; omega), hs2 a (by omega)]
    refine ⟨I4, J, rfl, (by first | exact h.2.2.2.2 | exact fun a ha => (em a (Or.inr ha)).trans (h.2.2.2.2 a ha) | exact fun a ha => (em2 a (Or.inr ha)).trans (h.2.2.2.2 a ha) | exact fun a ha => (hs a (by omega)).trans (h.2.2.2.2 a ha) | exact fun a ha => (wrM1 (by omega)).trans ((em a (Or.inr ha)).trans (h.2.2.2.2 a ha)) | exact fun a ha => (e3 a (by omega)).trans ((em a (Or.inr ha)).trans (h.2.2.2.2 a ha)) | exact fun a ha => (cs a (by omega) (by omega)).trans (h.2.2.2.2 a ha) | exact fun a ha => (hs2 a (by omega)).trans (h.2.2.2.2 a ha) | exact fun a ha => (e3 a (by omega) (by omega)).trans (h.2.2.2.2 a ha) | exact fun a ha => (e3 a (by omega) (by omega) (by omega) (by omega)).trans (h.2.2.2.2 a ha) | exact fun a ha => (hs5 a (by omega)).trans ((hs4' a (by omega)).trans ((hs3' a (by omega)).trans ((hs2 a (by omega)).trans (h.2.2.2.2 a ha))))), fun J2 => pre _ _ _ _ em fun I5 hs5 hf5 hr => t237_31 ?_⟩
    obtain ⟨-, w1, w2, o', w3, w4, w5⟩ := hr.resolve_left fun q => hv q.1
    have oo : ∀ j, j < n → I5 (x + 271 + 8) j = nI (o j) := fun j hj => by rw [w5 j hj, ← w4 j hj, ho4 j hj]
    have n1 : (I5 (x + 271) 20 = nI 1000000000) = False := eq_false w2
    simp (disch := omega) only [vpT, nI_leI, nI_ltI, nI_eq, nleT, nleF, nltT, nltF, neqT, neqF, nI_add, pk_mul, subN, divN, nI_clamp, mI1, wrH, wrM1, wrM2, wrowH, wrowM, bI0, bI1, kIi, kVi, kRi, kLi, kIx, kVx, Option.some.injEq, exists_eq_left', true_and, and_true, true_implies, false_implies, implies_true, not_true_eq_false, not_false_eq_true, true_or, or_true, false_or, or_false, forall_eq, iteT, iteF, LK_ hK, LM_ hK.m, LB_ hK.b, n1]
    refine mp_kp hK h (by rw [hf5 5 (by omega), wrM2 (by omega), em _ (by omega)]) (by rw [hs5 _ (by omega), wrM1 (by omega), em _ (by omega)]) (by rw [hs5 _ (by omega), wrM1 (by omega), em _ (by omega)]) fun I6 hs6 hf6 hP6 => t237_47 ?_
    have r6 : I6 (x + 271 + 1) = I (x + 271 + 1) := by rw [hs6 _ (by omega), hs5 _ (by omega), wrM1 (by omega), em _ (by omega)]
    refine lg (n := n) (fun i lv h => ∃ I7, lv = [some (.ref (x + 271)), some (.int p1), some (.int (nI i))] ∧ h = (L, I7, J2, z, l, ex) ∧ same I6 I7 (fun a => a = x + 271 + 1) ∧ (∀ j, j < i → I7 (x + 271 + 1) (46 + j) = nI (o j)) ∧ ∀ j, j < 46 ∨ 46 + i ≤ j → I7 (x + 271 + 1) j = I (x + 271 + 1) j) ?_ ?_ (Nat.zero_le _) _ _ ⟨I6, rfl, rfl, same.rf, fun j hj => by omega, fun j _ => by rw [r6]⟩
    · rintro i hi ih _ _ ⟨I7, rfl, rfl, hs7, k1, k2⟩
      have e0 : I7 (x + 271 + 1) 0 = nI n := (k2 0 (by omega)).trans h.m0
      have e8 : I7 (x + 271 + 8) = I5 (x + 271 + 8) := by rw [hs7 _ (by omega), hs6 _ (by omega)]
      refine t237_49 ?_
      simp (disch := omega) only [vpT, nI_leI, nI_ltI, nI_eq, nleT, nleF, nltT, nltF, neqT, neqF, nI_add, pk_mul, subN, divN, nI_clamp, mI1, wrH, wrM1, wrM2, wrowH, wrowM, bI0, bI1, kIi, kVi, kRi, kLi, kIx, kVx, Option.some.injEq, exists_eq_left', true_and, and_true, true_implies, false_implies, implies_true, not_true_eq_false, not_false_eq_true, true_or, or_true, false_or, or_false, forall_eq, iteT, iteF, LK_ hK, LM_ hK.m, LB_ hK.b, e0, e8, oo]
      refine ih _ _ ⟨_, rfl, rfl, fun a ha => by rw [wrM1 ha]; exact hs7 a ha, fun j hj => ?_, fun j hj => ?_⟩
      · by_cases q : j = i
        · rw [wrH rfl (by omega), q]
        · rw [wrM2 (by omega)]; exact k1 j (by omega)
      · rw [wrM2 (by omega)]; exact k2 j (by omega)
    · rintro _ _ ⟨I7, rfl, rfl, hs7, k1, k2⟩
      have e0 : I7 (x + 271 + 1) 0 = nI n := (k2 0 (by omega)).trans h.m0
      refine t237_49 ?_
      simp (disch := omega) only [vpT, nI_leI, nI_ltI, nI_eq, nleT, nleF, nltT, nltF, neqT, neqF, nI_add, pk_mul, subN, divN, nI_clamp, mI1, wrH, wrM1, wrM2, wrowH, wrowM, bI0, bI1, kIi, kVi, kRi, kLi, kIx, kVx, Option.some.injEq, exists_eq_left', true_and, and_true, true_implies, false_implies, implies_true, not_true_eq_false, not_false_eq_true, true_or, or_true, false_or, or_false, forall_eq, iteT, iteF, LK_ hK, LM_ hK.m, LB_ hK.b, e0]
      refine ⟨by rw [hs7 _ (by omega), hf6 20 (by omega)]; exact w1, ?_⟩
      refine fb (n' := n) (sn' := sn) (dn' := dn) h (hC.fr fun a r1 r2 => e4 a (by omega)) (fun a ha => by rw [e4 a (by omega), hs3' a (by omega), hs2 a (by omega)]) (fun a ha => by rw [hs7 a (by omega), hs6 a (by omega), hs5 a (by omega), wrM1 (by omega)]) (hP6.fr (by rw [hs7 _ (by omega)]) (by rw [hs7 _ (by omega)])) (fun j hj => by rw [hs7 _ (by omega), hf6 j (by omega), hf5 j (by omega), wrM2 (by omega)]) (by rw [hs7 _ (by omega), hf6 0 (by omega), hf5 0 (by omega)]; exact wrH rfl rfl) (h.1.1.oth hO ho1.1 ho1.2.1) (hO.rel h.r hn hs4 hd20 k1 (fun j j1 j2 => k2 j j1))
theorem P_around {p1 p2 : Int32} (hK : LK L x) (h : SX I0 I x n sn dn ac fi tp sd) : PR I0 L x 156 249 1 0 d e [.int p1, .int p2] I J z l ex := by
  have hn := h.n10
  have hol := BI_or h.i
  refine e156 (t156_0 ?_)
  simp (disch := omega) only [vpT, nI_leI, nI_ltI, nI_eq, nleT, nleF, nltT, nltF, neqT, neqF, nI_add, pk_mul, subN, divN, nI_clamp, mI1, wrH, wrM1, wrM2, wrowH, wrowM, bI0, bI1, kIi, kVi, kRi, kLi, kIx, kVx, Option.some.injEq, exists_eq_left', true_and, and_true, true_implies, false_implies, implies_true, not_true_eq_false, not_false_eq_true, true_or, or_true, false_or, or_false, forall_eq, iteT, iteF, LK_ hK, LM_ hK.m, LB_ hK.b, h.n0]
  refine sp_checkElement (fun q => Or.inl ⟨rfl, (by unfold NE9; decide), I, J, rfl, (by first | exact h.2.2.2.2 | exact fun a ha => (em a (Or.inr ha)).trans (h.2.2.2.2 a ha) | exact fun a ha => (em2 a (Or.inr ha)).trans (h.2.2.2.2 a ha) | exact fun a ha => (hs a (by omega)).trans (h.2.2.2.2 a ha) | exact fun a ha => (wrM1 (by omega)).trans ((em a (Or.inr ha)).trans (h.2.2.2.2 a ha)) | exact fun a ha => (e3 a (by omega)).trans ((em a (Or.inr ha)).trans (h.2.2.2.2 a ha)) | exact fun a ha => (cs a (by omega) (by omega)).trans (h.2.2.2.2 a ha) | exact fun a ha => (hs2 a (by omega)).trans (h.2.2.2.2 a ha) | exact fun a ha => (e3 a (by omega) (by omega)).trans (h.2.2.2.2 a ha) | exact fun a ha => (e3 a (by omega) (by omega) (by omega) (by omega)).trans (h.2.2.2.2 a ha) | exact fun a ha => (hs5 a (by omega)).trans ((hs4' a (by omega)).trans ((hs3' a (by omega)).trans ((hs2 a (by omega)).trans (h.2.2.2.2 a ha))))), fun J2 => e249 (t249_0 ?_)⟩) (fun q1 q2 => t156_14 ?_)
  · simp (disch := omega) only [vpT, nI_leI, nI_ltI, nI_eq, nleT, nleF, nltT, nltF, neqT, neqF, nI_add, pk_mul, subN, divN, nI_clamp, mI1, wrH, wrM1, wrM2, wrowH, wrowM, bI0, bI1, kIi, kVi, kRi, kLi, kIx, kVx, Option.some.injEq, exists_eq_left', true_and, and_true, true_implies, false_implies, implies_true, not_true_eq_false, not_false_eq_true, true_or, or_true, false_or, or_false, forall_eq, iteT, iteF, LK_ hK, LM_ hK.m, LB_ hK.b]
    refine mp_isCraftF hK.m (by rw [wrM1 (by omega)]; exact h.m0) hn q (t249_11 ?_)
    simp (disch := omega) only [vpT, nI_leI, nI_ltI, nI_eq, nleT, nleF, nltT, nltF, neqT, neqF, nI_add, pk_mul, subN, divN, nI_clamp, mI1, wrH, wrM1, wrM2, wrowH, wrowM, bI0, bI1, kIi, kVi, kRi, kLi, kIx, kVx, Option.some.injEq, exists_eq_left', true_and, and_true, true_implies, false_implies, implies_true, not_true_eq_false, not_false_eq_true, true_or, or_true, false_or, or_false, forall_eq, iteT, iteF, LK_ hK, LM_ hK.m, LB_ hK.b]
    refine mp_rightF hK.m (wrH rfl rfl) (by decide) (by decide) (t249_15 ?_)
    simp (disch := omega) only [vpT, nI_leI, nI_ltI, nI_eq, nleT, nleF, nltT, nltF, neqT, neqF, nI_add, pk_mul, subN, divN, nI_clamp, mI1, wrH, wrM1, wrM2, wrowH, wrowM, bI0, bI1, kIi, kVi, kRi, kLi, kIx, kVx, Option.some.injEq, exists_eq_left', true_and, and_true, true_implies, false_implies, implies_true, not_true_eq_false, not_false_eq_true, true_or, or_true, false_or, or_false, forall_eq, iteT, iteF, LK_ hK, LM_ hK.m, LB_ hK.b]
    exact ff h same.rf rfl
  have pre : ∀ I3 J2 t F, (∀ a, x + 271 ≤ a ∨ a < x → I3 a = I a) → Wp (cal (e + 39)) kc_249 [] F (15, [some (.ref (x + 271)), some (.int p1), some (.int p2)], [.int (nI 1)], (L, wr I3 (x + 271) 0 (nI 0), J2, t)) → cal (e + 40) 249 [.ref (x + 271), .int p1, .int p2] (L, I3, J2, t) F := by
    intro I3 J2 t F em kk
    refine e249 (t249_0 ?_)
    simp (disch := omega) only [vpT, nI_leI, nI_ltI, nI_eq, nleT, nleF, nltT, nltF, neqT, neqF, nI_add, pk_mul, subN, divN, nI_clamp, mI1, wrH, wrM1, wrM2, wrowH, wrowM, bI0, bI1, kIi, kVi, kRi, kLi, kIx, kVx, Option.some.injEq, exists_eq_left', true_and, and_true, true_implies, false_implies, implies_true, not_true_eq_false, not_false_eq_true, true_or, or_true, false_or, or_false, forall_eq, iteT, iteF, LK_ hK, LM_ hK.m, LB_ hK.b]
    refine mp_isCraftT hK.m (by rw [wrM1 (by omega), em _ (by omega)]; exact h.m0) hn ⟨q1, q2⟩ (t249_11 ?_)
    simp (disch := omega) only [vpT, nI_leI, nI_ltI, nI_eq, nleT, nleF, nltT, nltF, neqT, neqF, nI_add, pk_mul, subN, divN, nI_clamp, mI1, wrH, wrM1, wrM2, wrowH, wrowM, bI0, bI1, kIi, kVi, kRi, kLi, kIx, kVx, Option.some.injEq, exists_eq_left', true_and, and_true, true_implies, false_implies, implies_true, not_true_eq_false, not_false_eq_true, true_or, or_true, false_or, or_false, forall_eq, iteT, iteF, LK_ hK, LM_ hK.m, LB_ hK.b]
    exact mp_rightT hK.m (wrH rfl rfl) kk
  refine sp_checkArgument (fun q => Or.inr ⟨rfl, (by unfold NE9; decide), I, J, rfl, (by first | exact h.2.2.2.2 | exact fun a ha => (em a (Or.inr ha)).trans (h.2.2.2.2 a ha) | exact fun a ha => (em2 a (Or.inr ha)).trans (h.2.2.2.2 a ha) | exact fun a ha => (hs a (by omega)).trans (h.2.2.2.2 a ha) | exact fun a ha => (wrM1 (by omega)).trans ((em a (Or.inr ha)).trans (h.2.2.2.2 a ha)) | exact fun a ha => (e3 a (by omega)).trans ((em a (Or.inr ha)).trans (h.2.2.2.2 a ha)) | exact fun a ha => (cs a (by omega) (by omega)).trans (h.2.2.2.2 a ha) | exact fun a ha => (hs2 a (by omega)).trans (h.2.2.2.2 a ha) | exact fun a ha => (e3 a (by omega) (by omega)).trans (h.2.2.2.2 a ha) | exact fun a ha => (e3 a (by omega) (by omega) (by omega) (by omega)).trans (h.2.2.2.2 a ha) | exact fun a ha => (hs5 a (by omega)).trans ((hs4' a (by omega)).trans ((hs3' a (by omega)).trans ((hs2 a (by omega)).trans (h.2.2.2.2 a ha))))), fun J2 => pre _ _ _ _ (fun _ _ => rfl) (t249_15 ?_)⟩) (fun q5 q6 => t156_21 ?_)
  · simp (disch := omega) only [vpT, nI_leI, nI_ltI, nI_eq, nleT, nleF, nltT, nltF, neqT, neqF, nI_add, pk_mul, subN, divN, nI_clamp, mI1, wrH, wrM1, wrM2, wrowH, wrowM, bI0, bI1, kIi, kVi, kRi, kLi, kIx, kVx, Option.some.injEq, exists_eq_left', true_and, and_true, true_implies, false_implies, implies_true, not_true_eq_false, not_false_eq_true, true_or, or_true, false_or, or_false, forall_eq, iteT, iteF, LK_ hK, LM_ hK.m, LB_ hK.b]
    refine mp_inF (lo := nI 1) (hi := nI 99) rfl rfl q (t249_28 ?_)
    simp (disch := omega) only [vpT, nI_leI, nI_ltI, nI_eq, nleT, nleF, nltT, nltF, neqT, neqF, nI_add, pk_mul, subN, divN, nI_clamp, mI1, wrH, wrM1, wrM2, wrowH, wrowM, bI0, bI1, kIi, kVi, kRi, kLi, kIx, kVx, Option.some.injEq, exists_eq_left', true_and, and_true, true_implies, false_implies, implies_true, not_true_eq_false, not_false_eq_true, true_or, or_true, false_or, or_false, forall_eq, iteT, iteF, LK_ hK, LM_ hK.m, LB_ hK.b]
    refine mp_rightF hK.m (wrH rfl rfl) (by decide) (by decide) (t249_32 ?_)
    simp (disch := omega) only [vpT, nI_leI, nI_ltI, nI_eq, nleT, nleF, nltT, nltF, neqT, neqF, nI_add, pk_mul, subN, divN, nI_clamp, mI1, wrH, wrM1, wrM2, wrowH, wrowM, bI0, bI1, kIi, kVi, kRi, kLi, kIx, kVx, Option.some.injEq, exists_eq_left', true_and, and_true, true_implies, false_implies, implies_true, not_true_eq_false, not_false_eq_true, true_or, or_true, false_or, or_false, forall_eq, iteT, iteF, LK_ hK, LM_ hK.m, LB_ hK.b]
    exact ff h same.rf rfl
  obtain ⟨c, hc, rfl⟩ := i_lt (by omega) q1 q2
  obtain ⟨a, ha, hac⟩ := pigeon (fun j hj => (hol j hj).2) h.v.2.1 c hc
  obtain ⟨so, hso, eso⟩ := h.i.2.2.2.1 c hc
  have pre2 : ∀ I3 J2 t F, (∀ a, x + 271 ≤ a ∨ a < x → I3 a = I a) → Wp (cal (e + 39)) kc_249 [] F (43, [some (.ref (x + 271)), some (.int (nI c)), some (.int p2)], [.int (nI so)], (L, wr I3 (x + 271) 0 (nI 0), J2, t)) → cal (e + 40) 249 [.ref (x + 271), .int (nI c), .int p2] (L, I3, J2, t) F := by
    intro I3 J2 t F em kk
    refine pre _ _ _ _ em (t249_15 ?_)
    simp (disch := omega) only [vpT, nI_leI, nI_ltI, nI_eq, nleT, nleF, nltT, nltF, neqT, neqF, nI_add, pk_mul, subN, divN, nI_clamp, mI1, wrH, wrM1, wrM2, wrowH, wrowM, bI0, bI1, kIi, kVi, kRi, kLi, kIx, kVx, Option.some.injEq, exists_eq_left', true_and, and_true, true_implies, false_implies, implies_true, not_true_eq_false, not_false_eq_true, true_or, or_true, false_or, or_false, forall_eq, iteT, iteF, LK_ hK, LM_ hK.m, LB_ hK.b]
    refine mp_inT (lo := nI 1) (hi := nI 99) rfl rfl ⟨q5, q6⟩ (t249_28 ?_)
    simp (disch := omega) only [vpT, nI_leI, nI_ltI, nI_eq, nleT, nleF, nltT, nltF, neqT, neqF, nI_add, pk_mul, subN, divN, nI_clamp, mI1, wrH, wrM1, wrM2, wrowH, wrowM, bI0, bI1, kIi, kVi, kRi, kLi, kIx, kVx, Option.some.injEq, exists_eq_left', true_and, and_true, true_implies, false_implies, implies_true, not_true_eq_false, not_false_eq_true, true_or, or_true, false_or, or_false, forall_eq, iteT, iteF, LK_ hK, LM_ hK.m, LB_ hK.b]
    refine mp_rightT hK.m (wrH rfl rfl) (t249_32 ?_)
    simp (disch := omega) only [vpT, nI_leI, nI_ltI, nI_eq, nleT, nleF, nltT, nltF, neqT, neqF, nI_add, pk_mul, subN, divN, nI_clamp, mI1, wrH, wrM1, wrM2, wrowH, wrowM, bI0, bI1, kIi, kVi, kRi, kLi, kIx, kVx, Option.some.injEq, exists_eq_left', true_and, and_true, true_implies, false_implies, implies_true, not_true_eq_false, not_false_eq_true, true_or, or_true, false_or, or_false, forall_eq, iteT, iteF, LK_ hK, LM_ hK.m, LB_ hK.b]
    refine mp_ofCraft (w := 0) hK.m (show c < 10 by omega) (by decide) ?_
    have : wr I3 (x + 271) 0 (nI 0) (x + 271 + 1) (6 + 4 * c + 0) = nI so := by rw [wrM1 (by omega), em _ (by omega)]; exact (h.r.2.1 c hc).1.trans eso
    rw [this]
    exact kk
  simp (disch := omega) only [vpT, nI_leI, nI_ltI, nI_eq, nleT, nleF, nltT, nltF, neqT, neqF, nI_add, pk_mul, subN, divN, nI_clamp, mI1, wrH, wrM1, wrM2, wrowH, wrowM, bI0, bI1, kIi, kVi, kRi, kLi, kIx, kVx, Option.some.injEq, exists_eq_left', true_and, and_true, true_implies, false_implies, implies_true, not_true_eq_false, not_false_eq_true, true_or, or_true, false_or, or_false, forall_eq, iteT, iteF, LK_ hK, LM_ hK.m, LB_ hK.b]
  refine sp_leaves (n := n) (sn := sn) (dn := dn) hK.b h.i hc (t156_32 ?_)
  by_cases hl : so % 2 = 1
  · have el : lvs1 (bd I (x + 1 + 2)) c = true := by unfold lvs1; rw [eso, nI_clamp (by omega)]; exact decide_eq_true hl
    rw [el, bI_t]
    simp (disch := omega) only [vpT, nI_leI, nI_ltI, nI_eq, nleT, nleF, nltT, nltF, neqT, neqF, nI_add, pk_mul, subN, divN, nI_clamp, mI1, wrH, wrM1, wrM2, wrowH, wrowM, bI0, bI1, kIi, kVi, kRi, kLi, kIx, kVx, Option.some.injEq, exists_eq_left', true_and, and_true, true_implies, false_implies, implies_true, not_true_eq_false, not_false_eq_true, true_or, or_true, false_or, or_false, forall_eq, iteT, iteF, LK_ hK, LM_ hK.m, LB_ hK.b]
    refine ⟨I, J, rfl, (by first | exact h.2.2.2.2 | exact fun a ha => (em a (Or.inr ha)).trans (h.2.2.2.2 a ha) | exact fun a ha => (em2 a (Or.inr ha)).trans (h.2.2.2.2 a ha) | exact fun a ha => (hs a (by omega)).trans (h.2.2.2.2 a ha) | exact fun a ha => (wrM1 (by omega)).trans ((em a (Or.inr ha)).trans (h.2.2.2.2 a ha)) | exact fun a ha => (e3 a (by omega)).trans ((em a (Or.inr ha)).trans (h.2.2.2.2 a ha)) | exact fun a ha => (cs a (by omega) (by omega)).trans (h.2.2.2.2 a ha) | exact fun a ha => (hs2 a (by omega)).trans (h.2.2.2.2 a ha) | exact fun a ha => (e3 a (by omega) (by omega)).trans (h.2.2.2.2 a ha) | exact fun a ha => (e3 a (by omega) (by omega) (by omega) (by omega)).trans (h.2.2.2.2 a ha) | exact fun a ha => (hs5 a (by omega)).trans ((hs4' a (by omega)).trans ((hs3' a (by omega)).trans ((hs2 a (by omega)).trans (h.2.2.2.2 a ha))))), fun J2 => pre2 _ _ _ _ (fun _ _ => rfl) (t249_43 ?_)⟩
    simp (disch := omega) only [vpT, nI_leI, nI_ltI, nI_eq, nleT, nleF, nltT, nltF, neqT, neqF, nI_add, pk_mul, subN, divN, nI_clamp, mI1, wrH, wrM1, wrM2, wrowH, wrowM, bI0, bI1, kIi, kVi, kRi, kLi, kIx, kVx, Option.some.injEq, exists_eq_left', true_and, and_true, true_implies, false_implies, implies_true, not_true_eq_false, not_false_eq_true, true_or, or_true, false_or, or_false, forall_eq, iteT, iteF, LK_ hK, LM_ hK.m, LB_ hK.b, remN, hl]
    exact f1 h same.rf rfl
  · have el : lvs1 (bd I (x + 1 + 2)) c = false := by unfold lvs1; rw [eso, nI_clamp (by omega)]; exact decide_eq_false hl
    rw [el, bI_f]
    simp (disch := omega) only [vpT, nI_leI, nI_ltI, nI_eq, nleT, nleF, nltT, nltF, neqT, neqF, nI_add, pk_mul, subN, divN, nI_clamp, mI1, wrH, wrM1, wrM2, wrowH, wrowM, bI0, bI1, kIi, kVi, kRi, kLi, kIx, kVx, Option.some.injEq, exists_eq_left', true_and, and_true, true_implies, false_implies, implies_true, not_true_eq_false, not_false_eq_true, true_or, or_true, false_or, or_false, forall_eq, iteT, iteF, LK_ hK, LM_ hK.m, LB_ hK.b]
    obtain ⟨v, hv, rfl⟩ := i_le (by omega) (Int32.le_trans (show nI 0 ≤ nI 1 by decide) q5) q6
    refine sp_kp hK h (fun _ _ _ _ => rfl) fun I2 fi' s hC hs2 => t156_51 ?_
    have eb2 : bd I2 (x + 1 + 2) = bd I (x + 1 + 2) := hs2.bd fun a r1 r2 => by omega
    simp (disch := omega) only [vpT, nI_leI, nI_ltI, nI_eq, nleT, nleF, nltT, nltF, neqT, neqF, nI_add, pk_mul, subN, divN, nI_clamp, mI1, wrH, wrM1, wrM2, wrowH, wrowM, bI0, bI1, kIi, kVi, kRi, kLi, kIx, kVx, Option.some.injEq, exists_eq_left', true_and, and_true, true_implies, false_implies, implies_true, not_true_eq_false, not_false_eq_true, true_or, or_true, false_or, or_false, forall_eq, iteT, iteF, LK_ hK, LM_ hK.m, LB_ hK.b]
    refine sp_sendAround (n := n) (sn := sn) (dn := dn) (p := a) hK.r (by rw [eb2]; exact h.i) (by rw [eb2]; exact h.v.2.1) ha (by rw [eb2]; exact hac) fun I3 hs3 hS3 => t156_60 ?_
    rw [eb2] at hS3
    simp (disch := omega) only [vpT, nI_leI, nI_ltI, nI_eq, nleT, nleF, nltT, nltF, neqT, neqF, nI_add, pk_mul, subN, divN, nI_clamp, mI1, wrH, wrM1, wrM2, wrowH, wrowM, bI0, bI1, kIi, kVi, kRi, kLi, kIx, kVx, Option.some.injEq, exists_eq_left', true_and, and_true, true_implies, false_implies, implies_true, not_true_eq_false, not_false_eq_true, true_or, or_true, false_or, or_false, forall_eq, iteT, iteF, LK_ hK, LM_ hK.m, LB_ hK.b]
    have em : ∀ a, x + 271 ≤ a ∨ a < x → I3 a = I a := fun a ha => by rw [hs3 a (by omega), hs2 a (by have := hC.1; omega)]
    refine ⟨I3, J, rfl, (by first | exact h.2.2.2.2 | exact fun a ha => (em a (Or.inr ha)).trans (h.2.2.2.2 a ha) | exact fun a ha => (em2 a (Or.inr ha)).trans (h.2.2.2.2 a ha) | exact fun a ha => (hs a (by omega)).trans (h.2.2.2.2 a ha) | exact fun a ha => (wrM1 (by omega)).trans ((em a (Or.inr ha)).trans (h.2.2.2.2 a ha)) | exact fun a ha => (e3 a (by omega)).trans ((em a (Or.inr ha)).trans (h.2.2.2.2 a ha)) | exact fun a ha => (cs a (by omega) (by omega)).trans (h.2.2.2.2 a ha) | exact fun a ha => (hs2 a (by omega)).trans (h.2.2.2.2 a ha) | exact fun a ha => (e3 a (by omega) (by omega)).trans (h.2.2.2.2 a ha) | exact fun a ha => (e3 a (by omega) (by omega) (by omega) (by omega)).trans (h.2.2.2.2 a ha) | exact fun a ha => (hs5 a (by omega)).trans ((hs4' a (by omega)).trans ((hs3' a (by omega)).trans ((hs2 a (by omega)).trans (h.2.2.2.2 a ha))))), fun J2 => pre2 _ _ _ _ em (t249_43 ?_)⟩
    simp (disch := omega) only [vpT, nI_leI, nI_ltI, nI_eq, nleT, nleF, nltT, nltF, neqT, neqF, nI_add, pk_mul, subN, divN, nI_clamp, mI1, wrH, wrM1, wrM2, wrowH, wrowM, bI0, bI1, kIi, kVi, kRi, kLi, kIx, kVx, Option.some.injEq, exists_eq_left', true_and, and_true, true_implies, false_implies, implies_true, not_true_eq_false, not_false_eq_true, true_or, or_true, false_or, or_false, forall_eq, iteT, iteF, LK_ hK, LM_ hK.m, LB_ hK.b, remN, hl]
    refine mp_kp hK h (by rw [wrM2 (by omega), em _ (by omega)]) (by rw [wrM1 (by omega), em _ (by omega)]) (by rw [wrM1 (by omega), em _ (by omega)]) fun I6 hs6 hf6 hP6 => t249_55 ?_
    have r6 : I6 (x + 271 + 1) = I (x + 271 + 1) := by rw [hs6 _ (by omega), wrM1 (by omega), em _ (by omega)]
    simp (disch := omega) only [vpT, nI_leI, nI_ltI, nI_eq, nleT, nleF, nltT, nltF, neqT, neqF, nI_add, pk_mul, subN, divN, nI_clamp, mI1, wrH, wrM1, wrM2, wrowH, wrowM, bI0, bI1, kIi, kVi, kRi, kLi, kIx, kVx, Option.some.injEq, exists_eq_left', true_and, and_true, true_implies, false_implies, implies_true, not_true_eq_false, not_false_eq_true, true_or, or_true, false_or, or_false, forall_eq, iteT, iteF, LK_ hK, LM_ hK.m, LB_ hK.b]
    refine mp_goesAround (S := bd I (x + 1 + 2)) (S' := bd I3 (x + 1 + 2)) (n := n) (sn := sn) (dn := dn) (p := a) hK.m (by rw [r6]; exact h.r) h.i h.v.2.1 ha hac hS3 fun I7 hs7 hR7 => t249_61 ?_
    simp (disch := omega) only [vpT, nI_leI, nI_ltI, nI_eq, nleT, nleF, nltT, nltF, neqT, neqF, nI_add, pk_mul, subN, divN, nI_clamp, mI1, wrH, wrM1, wrM2, wrowH, wrowM, bI0, bI1, kIi, kVi, kRi, kLi, kIx, kVx, Option.some.injEq, exists_eq_left', true_and, and_true, true_implies, false_implies, implies_true, not_true_eq_false, not_false_eq_true, true_or, or_true, false_or, or_false, forall_eq, iteT, iteF, LK_ hK, LM_ hK.m, LB_ hK.b]
    refine mp_ofCraft (w := 1) hK.m (show c < 10 by omega) (by decide) (t249_67 ?_)
    simp (disch := omega) only [vpT, nI_leI, nI_ltI, nI_eq, nleT, nleF, nltT, nltF, neqT, neqF, nI_add, pk_mul, subN, divN, nI_clamp, mI1, wrH, wrM1, wrM2, wrowH, wrowM, bI0, bI1, kIi, kVi, kRi, kLi, kIx, kVx, Option.some.injEq, exists_eq_left', true_and, and_true, true_implies, false_implies, implies_true, not_true_eq_false, not_false_eq_true, true_or, or_true, false_or, or_false, forall_eq, iteT, iteF, LK_ hK, LM_ hK.m, LB_ hK.b]
    refine ⟨(hR7.2.1 c hc).2.1, fb (n' := n) (sn' := sn) (dn' := dn) h (hC.fr fun a r1 r2 => hs3 a (by omega)) (fun a ha => by rw [hs3 a (by omega), hs2 a (by omega)]) (fun a ha => by rw [hs7 a (by omega), hs6 a (by omega), wrM1 (by omega)]) (hP6.fr (by rw [hs7 _ (by omega)]) (by rw [hs7 _ (by omega)])) (fun j hj => by rw [hs7 _ (by omega), hf6 j (by omega), wrM2 (by omega)]) (by rw [hs7 _ (by omega), hf6 0 (by omega)]; exact wrH rfl rfl) (h.1.1.snd ha hac hv hS3) hR7⟩
theorem P_goOn {p1 : Int32} (hK : LK L x) (h : SX I0 I x n sn dn ac fi tp sd) : PR I0 L x 158 251 0 9 d e [.int p1] I J z l ex := by
  have hn := h.n10
  have m1 : I (x + 271 + 1) 1 = I (x + 1 + 2) 13 := h.r.1.2.1
  refine e158 (t158_0 ?_)
  simp (disch := omega) only [vpT, nI_leI, nI_ltI, nI_eq, nleT, nleF, nltT, nltF, neqT, neqF, nI_add, pk_mul, subN, divN, nI_clamp, mI1, wrH, wrM1, wrM2, wrowH, wrowM, bI0, bI1, kIi, kVi, kRi, kLi, kIx, kVx, Option.some.injEq, exists_eq_left', true_and, and_true, true_implies, false_implies, implies_true, not_true_eq_false, not_false_eq_true, true_or, or_true, false_or, or_false, forall_eq, iteT, iteF, LK_ hK, LM_ hK.m, LB_ hK.b]
  refine sp_checkArgument (fun q => Or.inl ⟨rfl, (by unfold NE9; decide), I, J, rfl, (by first | exact h.2.2.2.2 | exact fun a ha => (em a (Or.inr ha)).trans (h.2.2.2.2 a ha) | exact fun a ha => (em2 a (Or.inr ha)).trans (h.2.2.2.2 a ha) | exact fun a ha => (hs a (by omega)).trans (h.2.2.2.2 a ha) | exact fun a ha => (wrM1 (by omega)).trans ((em a (Or.inr ha)).trans (h.2.2.2.2 a ha)) | exact fun a ha => (e3 a (by omega)).trans ((em a (Or.inr ha)).trans (h.2.2.2.2 a ha)) | exact fun a ha => (cs a (by omega) (by omega)).trans (h.2.2.2.2 a ha) | exact fun a ha => (hs2 a (by omega)).trans (h.2.2.2.2 a ha) | exact fun a ha => (e3 a (by omega) (by omega)).trans (h.2.2.2.2 a ha) | exact fun a ha => (e3 a (by omega) (by omega) (by omega) (by omega)).trans (h.2.2.2.2 a ha) | exact fun a ha => (hs5 a (by omega)).trans ((hs4' a (by omega)).trans ((hs3' a (by omega)).trans ((hs2 a (by omega)).trans (h.2.2.2.2 a ha))))), fun J2 => e251 (t251_0 ?_)⟩) (fun q1 q2 => t158_17 ?_)
  · simp (disch := omega) only [vpT, nI_leI, nI_ltI, nI_eq, nleT, nleF, nltT, nltF, neqT, neqF, nI_add, pk_mul, subN, divN, nI_clamp, mI1, wrH, wrM1, wrM2, wrowH, wrowM, bI0, bI1, kIi, kVi, kRi, kLi, kIx, kVx, Option.some.injEq, exists_eq_left', true_and, and_true, true_implies, false_implies, implies_true, not_true_eq_false, not_false_eq_true, true_or, or_true, false_or, or_false, forall_eq, iteT, iteF, LK_ hK, LM_ hK.m, LB_ hK.b, m1]
    refine mp_inF (hi := nI 1999) rfl rfl q (t251_21 ?_)
    simp (disch := omega) only [vpT, nI_leI, nI_ltI, nI_eq, nleT, nleF, nltT, nltF, neqT, neqF, nI_add, pk_mul, subN, divN, nI_clamp, mI1, wrH, wrM1, wrM2, wrowH, wrowM, bI0, bI1, kIi, kVi, kRi, kLi, kIx, kVx, Option.some.injEq, exists_eq_left', true_and, and_true, true_implies, false_implies, implies_true, not_true_eq_false, not_false_eq_true, true_or, or_true, false_or, or_false, forall_eq, iteT, iteF, LK_ hK, LM_ hK.m, LB_ hK.b]
    refine mp_rightF hK.m (wrH rfl rfl) (by decide) (by decide) (t251_25 ?_)
    simp (disch := omega) only [vpT, nI_leI, nI_ltI, nI_eq, nleT, nleF, nltT, nltF, neqT, neqF, nI_add, pk_mul, subN, divN, nI_clamp, mI1, wrH, wrM1, wrM2, wrowH, wrowM, bI0, bI1, kIi, kVi, kRi, kLi, kIx, kVx, Option.some.injEq, exists_eq_left', true_and, and_true, true_implies, false_implies, implies_true, not_true_eq_false, not_false_eq_true, true_or, or_true, false_or, or_false, forall_eq, iteT, iteF, LK_ hK, LM_ hK.m, LB_ hK.b]
    exact ff h same.rf rfl
  simp (disch := omega) only [vpT, nI_leI, nI_ltI, nI_eq, nleT, nleF, nltT, nltF, neqT, neqF, nI_add, pk_mul, subN, divN, nI_clamp, mI1, wrH, wrM1, wrM2, wrowH, wrowM, bI0, bI1, kIi, kVi, kRi, kLi, kIx, kVx, Option.some.injEq, exists_eq_left', true_and, and_true, true_implies, false_implies, implies_true, not_true_eq_false, not_false_eq_true, true_or, or_true, false_or, or_false, forall_eq, iteT, iteF, LK_ hK, LM_ hK.m, LB_ hK.b]
  refine sp_kp hK h (fun _ _ _ _ => rfl) fun I2 fi' s hC hs2 => t158_31 ?_
  have eb2 : bd I2 (x + 1 + 2) = bd I (x + 1 + 2) := hs2.bd fun a r1 r2 => by omega
  simp (disch := omega) only [vpT, nI_leI, nI_ltI, nI_eq, nleT, nleF, nltT, nltF, neqT, neqF, nI_add, pk_mul, subN, divN, nI_clamp, mI1, wrH, wrM1, wrM2, wrowH, wrowM, bI0, bI1, kIi, kVi, kRi, kLi, kIx, kVx, Option.some.injEq, exists_eq_left', true_and, and_true, true_implies, false_implies, implies_true, not_true_eq_false, not_false_eq_true, true_or, or_true, false_or, or_false, forall_eq, iteT, iteF, LK_ hK, LM_ hK.m, LB_ hK.b]
  refine sp_passTime (n := n) (sn := sn) (dn := dn) hK.r (by rw [eb2]; exact h.i) (by rw [eb2]; exact h.v.2.1) fun I3 S1 hs3 hps eb3 => t158_39 ?_
  rw [eb2] at hps ⊢
  obtain ⟨D, hD⟩ : ∃ D, due (slt (bd I (x + 1 + 2)) (ordN (bd I (x + 1 + 2)))) p1 n 0 = D := ⟨_, rfl⟩
  rw [hD] at hps ⊢
  simp (disch := omega) only [vpT, nI_leI, nI_ltI, nI_eq, nleT, nleF, nltT, nltF, neqT, neqF, nI_add, pk_mul, subN, divN, nI_clamp, mI1, wrH, wrM1, wrM2, wrowH, wrowM, bI0, bI1, kIi, kVi, kRi, kLi, kIx, kVx, Option.some.injEq, exists_eq_left', true_and, and_true, true_implies, false_implies, implies_true, not_true_eq_false, not_false_eq_true, true_or, or_true, false_or, or_false, forall_eq, iteT, iteF, LK_ hK, LM_ hK.m, LB_ hK.b]
  have em : ∀ a, x + 271 ≤ a ∨ a < x → I3 a = I a := fun a ha => by rw [hs3 a (by omega), hs2 a (by have := hC.1; omega)]
  have hbn := h.v.2.2.1.2.2.2.2.1
  have i1 := Int32.le_iff_toInt_le.mp q1
  have i2 := Int32.le_iff_toInt_le.mp q2
  rw [nIi (by decide)] at i2
  have hV := VB.pto (a := (0, 0, 0)) h.v (Nat.le_refl _) (by decide) (show 0 ≤ p1.toInt by have : 0 ≤ (I (x + 1 + 2) 13).toInt := hbn.1; omega) (by omega) ⟨hD, ⟨S1, hps, rfl⟩, rfl⟩
  have hVL : VL (bd I3 (x + 1 + 2)) (n - D) sn (mn20 (dn + D)) := by
    rw [eb3]
    exact ⟨hV.1, fun k hk => RL_pss (S' := S1) h.1.1.2 hV.2 hps k hk⟩
  refine ⟨I3, J, rfl, (by first | exact h.2.2.2.2 | exact fun a ha => (em a (Or.inr ha)).trans (h.2.2.2.2 a ha) | exact fun a ha => (em2 a (Or.inr ha)).trans (h.2.2.2.2 a ha) | exact fun a ha => (hs a (by omega)).trans (h.2.2.2.2 a ha) | exact fun a ha => (wrM1 (by omega)).trans ((em a (Or.inr ha)).trans (h.2.2.2.2 a ha)) | exact fun a ha => (e3 a (by omega)).trans ((em a (Or.inr ha)).trans (h.2.2.2.2 a ha)) | exact fun a ha => (cs a (by omega) (by omega)).trans (h.2.2.2.2 a ha) | exact fun a ha => (hs2 a (by omega)).trans (h.2.2.2.2 a ha) | exact fun a ha => (e3 a (by omega) (by omega)).trans (h.2.2.2.2 a ha) | exact fun a ha => (e3 a (by omega) (by omega) (by omega) (by omega)).trans (h.2.2.2.2 a ha) | exact fun a ha => (hs5 a (by omega)).trans ((hs4' a (by omega)).trans ((hs3' a (by omega)).trans ((hs2 a (by omega)).trans (h.2.2.2.2 a ha))))), fun J2 => e251 (t251_0 ?_)⟩
  simp (disch := omega) only [vpT, nI_leI, nI_ltI, nI_eq, nleT, nleF, nltT, nltF, neqT, neqF, nI_add, pk_mul, subN, divN, nI_clamp, mI1, wrH, wrM1, wrM2, wrowH, wrowM, bI0, bI1, kIi, kVi, kRi, kLi, kIx, kVx, Option.some.injEq, exists_eq_left', true_and, and_true, true_implies, false_implies, implies_true, not_true_eq_false, not_false_eq_true, true_or, or_true, false_or, or_false, forall_eq, iteT, iteF, LK_ hK, LM_ hK.m, LB_ hK.b, em, m1]
  refine mp_inT (hi := nI 1999) rfl rfl ⟨q1, q2⟩ (t251_21 ?_)
  simp (disch := omega) only [vpT, nI_leI, nI_ltI, nI_eq, nleT, nleF, nltT, nltF, neqT, neqF, nI_add, pk_mul, subN, divN, nI_clamp, mI1, wrH, wrM1, wrM2, wrowH, wrowM, bI0, bI1, kIi, kVi, kRi, kLi, kIx, kVx, Option.some.injEq, exists_eq_left', true_and, and_true, true_implies, false_implies, implies_true, not_true_eq_false, not_false_eq_true, true_or, or_true, false_or, or_false, forall_eq, iteT, iteF, LK_ hK, LM_ hK.m, LB_ hK.b]
  refine mp_rightT hK.m (wrH rfl rfl) (t251_25 ?_)
  simp (disch := omega) only [vpT, nI_leI, nI_ltI, nI_eq, nleT, nleF, nltT, nltF, neqT, neqF, nI_add, pk_mul, subN, divN, nI_clamp, mI1, wrH, wrM1, wrM2, wrowH, wrowM, bI0, bI1, kIi, kVi, kRi, kLi, kIx, kVx, Option.some.injEq, exists_eq_left', true_and, and_true, true_implies, false_implies, implies_true, not_true_eq_false, not_false_eq_true, true_or, or_true, false_or, or_false, forall_eq, iteT, iteF, LK_ hK, LM_ hK.m, LB_ hK.b]
  refine mp_kp hK h (by rw [wrM2 (by omega), em _ (by omega)]) (by rw [wrM1 (by omega), em _ (by omega)]) (by rw [wrM1 (by omega), em _ (by omega)]) fun I6 hs6 hf6 hP6 => t251_34 ?_
  have r6 : I6 (x + 271 + 1) = I (x + 271 + 1) := by rw [hs6 _ (by omega), wrM1 (by omega), em _ (by omega)]
  simp (disch := omega) only [vpT, nI_leI, nI_ltI, nI_eq, nleT, nleF, nltT, nltF, neqT, neqF, nI_add, pk_mul, subN, divN, nI_clamp, mI1, wrH, wrM1, wrM2, wrowH, wrowM, bI0, bI1, kIi, kVi, kRi, kLi, kIx, kVx, Option.some.injEq, exists_eq_left', true_and, and_true, true_implies, false_implies, implies_true, not_true_eq_false, not_false_eq_true, true_or, or_true, false_or, or_false, forall_eq, iteT, iteF, LK_ hK, LM_ hK.m, LB_ hK.b]
  refine mp_passesTo (S := bd I (x + 1 + 2)) (n := n) (sn := sn) (dn := dn) hK.m (by rw [r6]; exact h.r) h.i h.v.2.1 hD hps fun I7 hs7 hf7 _ _ _ hR7 _ => t251_39 ?_
  simp (disch := omega) only [vpT, nI_leI, nI_ltI, nI_eq, nleT, nleF, nltT, nltF, neqT, neqF, nI_add, pk_mul, subN, divN, nI_clamp, mI1, wrH, wrM1, wrM2, wrowH, wrowM, bI0, bI1, kIi, kVi, kRi, kLi, kIx, kVx, Option.some.injEq, exists_eq_left', true_and, and_true, true_implies, false_implies, implies_true, not_true_eq_false, not_false_eq_true, true_or, or_true, false_or, or_false, forall_eq, iteT, iteF, LK_ hK, LM_ hK.m, LB_ hK.b]
  refine fb h (hC.fr fun a r1 r2 => hs3 a (by omega)) (fun a ha => by rw [hs3 a (by omega), hs2 a (by omega)]) (fun a ha => by rw [hs7 a (by omega), hs6 a (by omega), wrM1 (by omega)]) (hP6.fr (hf7 5 (by omega)) (by rw [hs7 _ (by omega)])) (fun j hj => by rw [hf7 j (by omega), hf6 j (by omega), wrM2 (by omega)]) (by rw [hf7 0 (by omega), hf6 0 (by omega)]; exact wrH rfl rfl) hVL (by rw [eb3]; exact hR7)
end CALLS6
