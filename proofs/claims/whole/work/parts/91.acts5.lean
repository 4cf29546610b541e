/-! The law's calls: acts that lay the plan anew. -/
section CALLS5
variable {I0 I I2 I3 I5 : Nat → Nat → Int32} {J J2 : Nat → Nat → Int64} {L : hL} {x n sn dn ac fi tp sd c : Nat} {t : tl} {F : Int32 → hp → Prop} {G : hp → Prop} {X : Nat → hp → Prop} {d e z l : Nat} {ex : Bool}
theorem Oth_of {b : Nat} {o : Nat → Nat} (he : ∀ a, b ≤ a → a ≤ b + 12 → a ≠ b + 6 → I3 a = I a) (hr : ROW (I3 (b + 6)) o n) : Oth (bd I b) (bd I3 b) n o :=
  ⟨hr, he b (by omega) (by omega) (by omega), he _ (by omega) (by omega) (by omega), he _ (by omega) (by omega) (by omega), he _ (by omega) (by omega) (by omega), he _ (by omega) (by omega) (by omega), he _ (by omega) (by omega) (by omega), he _ (by omega) (by omega) (by omega), he _ (by omega) (by omega) (by omega), he _ (by omega) (by omega) (by omega), he _ (by omega) (by omega) (by omega), he _ (by omega) (by omega) (by omega), he _ (by omega) (by omega) (by omega)⟩
--facts LK_ hK, LM_ hK.m, LB_ hK.b
theorem P_byRanks (hK : LK L x) (h : SX I0 I x n sn dn ac fi tp sd) : PR I0 L x 34 238 9 9 d e [] I J z l ex := by
  have hn := h.n10
  have hol := BI_or h.i
  refine e34 (t34_0 ?_)
  simp (disch := omega) only [vpT, nI_leI, nI_ltI, nI_eq, nleT, nleF, nltT, nltF, neqT, neqF, nI_add, pk_mul, subN, divN, nI_clamp, mI1, wrH, wrM1, wrM2, wrowH, wrowM, bI0, bI1, kIi, kVi, kRi, kLi, kIx, kVx, Option.some.injEq, exists_eq_left', true_and, and_true, true_implies, false_implies, implies_true, not_true_eq_false, not_false_eq_true, true_or, or_true, false_or, or_false, forall_eq, iteT, iteF, LK_ hK, LM_ hK.m, LB_ hK.b]
  refine sp_kp hK h (fun _ _ _ _ => rfl) fun I2 fi' s hC hs2 => t34_14 ?_
  have eb2 : bd I2 (x + 1 + 2) = bd I (x + 1 + 2) := hs2.bd fun a r1 r2 => by omega
  simp (disch := omega) only [vpT, nI_leI, nI_ltI, nI_eq, nleT, nleF, nltT, nltF, neqT, neqF, nI_add, pk_mul, subN, divN, nI_clamp, mI1, wrH, wrM1, wrM2, wrowH, wrowM, bI0, bI1, kIi, kVi, kRi, kLi, kIx, kVx, Option.some.injEq, exists_eq_left', true_and, and_true, true_implies, false_implies, implies_true, not_true_eq_false, not_false_eq_true, true_or, or_true, false_or, or_false, forall_eq, iteT, iteF, LK_ hK, LM_ hK.m, LB_ hK.b]
  refine sp_orderByRanks (n := n) (sn := sn) (dn := dn) hK.r (by rw [eb2]; exact h.i) (by rw [eb2]; exact h.v.2.1) fun I3 hs3 hr3 => t34_21 ?_
  rw [eb2] at hr3
  have hs := obr_plan (f := frz (bd I (x + 1 + 2)) n) h.v.2.2.2.1 h.v.2.1 (fun j hj => (hol j hj).2) frz_le
  have hO : Oth (bd I (x + 1 + 2)) (bd I3 (x + 1 + 2)) n _ := Oth_of (fun a r1 r2 r3 => by rw [hs3 a (by omega), hs2 a (by omega)]) hr3
  have hV3 := h.1.1.oth hO hs.1 hs.2.1
  simp (disch := omega) only [vpT, nI_leI, nI_ltI, nI_eq, nleT, nleF, nltT, nltF, neqT, neqF, nI_add, pk_mul, subN, divN, nI_clamp, mI1, wrH, wrM1, wrM2, wrowH, wrowM, bI0, bI1, kIi, kVi, kRi, kLi, kIx, kVx, Option.some.injEq, exists_eq_left', true_and, and_true, true_implies, false_implies, implies_true, not_true_eq_false, not_false_eq_true, true_or, or_true, false_or, or_false, forall_eq, iteT, iteF, LK_ hK, LM_ hK.m, LB_ hK.b]
  refine sp_layPlan (n := n) (sn := sn) (dn := dn) hK.r hV3.1.1 fun I4 hs4 hT4 => t34_28 ?_
  have eb4 : bd I4 (x + 1 + 2) = bd I3 (x + 1 + 2) := hs4.bd fun a r1 r2 => by omega
  simp (disch := omega) only [vpT, nI_leI, nI_ltI, nI_eq, nleT, nleF, nltT, nltF, neqT, neqF, nI_add, pk_mul, subN, divN, nI_clamp, mI1, wrH, wrM1, wrM2, wrowH, wrowM, bI0, bI1, kIi, kVi, kRi, kLi, kIx, kVx, Option.some.injEq, exists_eq_left', true_and, and_true, true_implies, false_implies, implies_true, not_true_eq_false, not_false_eq_true, true_or, or_true, false_or, or_false, forall_eq, iteT, iteF, LK_ hK, LM_ hK.m, LB_ hK.b]
  refine sp_cost (n := n) (sn := sn) (dn := dn) (o := ordN (bd I3 (x + 1 + 2))) hK.r.t hK.b (by rw [eb4]; exact hV3.1.1) (fun j hj => (BI_or hV3.1.1 j hj).2) (by rw [eb4]; exact hT4) (t34_32 ?_)
  simp (disch := omega) only [vpT, nI_leI, nI_ltI, nI_eq, nleT, nleF, nltT, nltF, neqT, neqF, nI_add, pk_mul, subN, divN, nI_clamp, mI1, wrH, wrM1, wrM2, wrowH, wrowM, bI0, bI1, kIi, kVi, kRi, kLi, kIx, kVx, Option.some.injEq, exists_eq_left', true_and, and_true, true_implies, false_implies, implies_true, not_true_eq_false, not_false_eq_true, true_or, or_true, false_or, or_false, forall_eq, iteT, iteF, LK_ hK, LM_ hK.m, LB_ hK.b]
  rw [eb4]
  have em : ∀ a, x + 271 ≤ a → I4 a = I a := fun a ha => by rw [hs4 a (by omega), hs3 a (by omega), hs2 a (by have := hC.1; omega)]
  refine ⟨I4, J, rfl, fun J2 => ?_⟩
  refine mp_byRanks (T := 1999) (S := bd I (x + 1 + 2)) (S' := bd I3 (x + 1 + 2)) (n := n) (sn := sn) (dn := dn) (ac := ac) hK.m (by rw [em _ (by omega)]; exact h.r) h.i h.v.2.2.1 h.v.2.1 (by rw [em _ (by omega)]; exact h.2.2.1.2.2.1) h.2.2.1.2.2.2.2.1 hs hO fun I5 hs5 hf5 h05 hP5 hR5 => ⟨rfl, ?_⟩
  refine fb (n' := n) (sn' := sn) (dn' := dn) h (hC.fr fun a r1 r2 => by rw [hs4 a (by omega), hs3 a (by omega)]) (fun a ha => by rw [hs4 a (by omega), hs3 a (by omega), hs2 a (by omega)]) (fun a ha => hs5 a (by omega)) (hP5.fr0 (em _ (by omega)) (em _ (by omega))) (fun j hj => hf5 j (by omega) (by omega)) h05 (by rw [eb4]; exact hV3) (by rw [eb4]; exact hR5)
theorem P_trade (hK : LK L x) (h : SX I0 I x n sn dn ac fi tp sd) : PR I0 L x 46 246 9 9 d e [] I J z l ex := by
  have hn := h.n10
  have hs4 := h.i.2.1.2
  have hd20 := h.i.2.2.1.2
  have hol := BI_or h.i
  obtain ⟨sh, hs3, hsh⟩ := h.v.2.2.2.2
  refine e46 (t46_0 ?_)
  simp (disch := omega) only [vpT, nI_leI, nI_ltI, nI_eq, nleT, nleF, nltT, nltF, neqT, neqF, nI_add, pk_mul, subN, divN, nI_clamp, mI1, wrH, wrM1, wrM2, wrowH, wrowM, bI0, bI1, kIi, kVi, kRi, kLi, kIx, kVx, Option.some.injEq, exists_eq_left', true_and, and_true, true_implies, false_implies, implies_true, not_true_eq_false, not_false_eq_true, true_or, or_true, false_or, or_false, forall_eq, iteT, iteF, LK_ hK, LM_ hK.m, LB_ hK.b]
  refine sp_placeToTrade hK.r h.i hsh hs3 fun I2 hs2 => t46_7 ?_
  have em2 : ∀ a, x + 271 ≤ a → I2 a = I a := fun a ha => hs2 a (by omega)
  by_cases hv : trdR (bd I (x + 1 + 2)) n = -1
  · rw [hv]
    refine ⟨fun _ => t46_38 ?_, fun q => absurd rfl q⟩
    simp (disch := omega) only [vpT, nI_leI, nI_ltI, nI_eq, nleT, nleF, nltT, nltF, neqT, neqF, nI_add, pk_mul, subN, divN, nI_clamp, mI1, wrH, wrM1, wrM2, wrowH, wrowM, bI0, bI1, kIi, kVi, kRi, kLi, kIx, kVx, Option.some.injEq, exists_eq_left', true_and, and_true, true_implies, false_implies, implies_true, not_true_eq_false, not_false_eq_true, true_or, or_true, false_or, or_false, forall_eq, iteT, iteF, LK_ hK, LM_ hK.m, LB_ hK.b]
    refine ⟨I2, J, rfl, fun J2 => e246 (t246_0 ?_)⟩
    simp (disch := omega) only [vpT, nI_leI, nI_ltI, nI_eq, nleT, nleF, nltT, nltF, neqT, neqF, nI_add, pk_mul, subN, divN, nI_clamp, mI1, wrH, wrM1, wrM2, wrowH, wrowM, bI0, bI1, kIi, kVi, kRi, kLi, kIx, kVx, Option.some.injEq, exists_eq_left', true_and, and_true, true_implies, false_implies, implies_true, not_true_eq_false, not_false_eq_true, true_or, or_true, false_or, or_false, forall_eq, iteT, iteF, LK_ hK, LM_ hK.m, LB_ hK.b]
    refine mp_bestTrade (T := 1999) (S := bd I (x + 1 + 2)) (n := n) (sn := sn) (dn := dn) hK.m (by rw [wrM1 (by omega), em2 _ (by omega)]; exact h.r) h.i h.v.2.2.1 hol hsh hs3 fun I3 hs3' => t246_9 ?_
    rw [hv]
    refine ⟨fun q => absurd rfl q, fun _ => ?_⟩
    simp (disch := omega) only [vpT, nI_leI, nI_ltI, nI_eq, nleT, nleF, nltT, nltF, neqT, neqF, nI_add, pk_mul, subN, divN, nI_clamp, mI1, wrH, wrM1, wrM2, wrowH, wrowM, bI0, bI1, kIi, kVi, kRi, kLi, kIx, kVx, Option.some.injEq, exists_eq_left', true_and, and_true, true_implies, false_implies, implies_true, not_true_eq_false, not_false_eq_true, true_or, or_true, false_or, or_false, forall_eq, iteT, iteF, LK_ hK, LM_ hK.m, LB_ hK.b]
    exact f2 h (hs2.up fun a ha => by omega) (em2 _ (by omega)) (hs3'.up fun a ha => by omega) (by rw [hs3' _ (by omega), wrM1 (by omega)]) (by rw [hs3' _ (by omega), wrM1 (by omega)]) (fun j hj => by rw [hs3' _ (by omega)])
  · refine ⟨fun q => absurd q hv, fun _ => ?_⟩
    have := trd_val (ok := tokS (bd I (x + 1 + 2)) n) (co := tcoS (bd I (x + 1 + 2)) n) (l0 := cst (bd I (x + 1 + 2)) (ordN (bd I (x + 1 + 2))) (nI 0) n) (f := frz (bd I (x + 1 + 2)) n) (m := n - 1 - frz (bd I (x + 1 + 2)) n)
    obtain ⟨p, hp1, hp2, hpv⟩ := this.resolve_left hv
    have hpv : trdR (bd I (x + 1 + 2)) n = nI p := hpv
    rw [hpv] at hv ⊢
    have hp : p + 1 < n := by omega
    simp (disch := omega) only [vpT, nI_leI, nI_ltI, nI_eq, nleT, nleF, nltT, nltF, neqT, neqF, nI_add, pk_mul, subN, divN, nI_clamp, mI1, wrH, wrM1, wrM2, wrowH, wrowM, bI0, bI1, kIi, kVi, kRi, kLi, kIx, kVx, Option.some.injEq, exists_eq_left', true_and, and_true, true_implies, false_implies, implies_true, not_true_eq_false, not_false_eq_true, true_or, or_true, false_or, or_false, forall_eq, iteT, iteF, LK_ hK, LM_ hK.m, LB_ hK.b]
    refine sp_kp hK h (fun a r1 r2 r3 => hs2 a (by omega)) fun I3 fi' s hC hs3' => t46_27 ?_
    have eb3 : bd I3 (x + 1 + 2) = bd I (x + 1 + 2) := by rw [hs3'.bd (fun a r1 r2 => by omega), hs2.bd (fun a r1 r2 => by omega)]
    simp (disch := omega) only [vpT, nI_leI, nI_ltI, nI_eq, nleT, nleF, nltT, nltF, neqT, neqF, nI_add, pk_mul, subN, divN, nI_clamp, mI1, wrH, wrM1, wrM2, wrowH, wrowM, bI0, bI1, kIi, kVi, kRi, kLi, kIx, kVx, Option.some.injEq, exists_eq_left', true_and, and_true, true_implies, false_implies, implies_true, not_true_eq_false, not_false_eq_true, true_or, or_true, false_or, or_false, forall_eq, iteT, iteF, LK_ hK, LM_ hK.m, LB_ hK.b]
    refine sp_swapWithNext (n := n) hK.b (by rw [hs3' _ (by omega), hs2 _ (by omega)]; exact h.n0) hn hp (t46_38 ?_)
    simp (disch := omega) only [vpT, nI_leI, nI_ltI, nI_eq, nleT, nleF, nltT, nltF, neqT, neqF, nI_add, pk_mul, subN, divN, nI_clamp, mI1, wrH, wrM1, wrM2, wrowH, wrowM, bI0, bI1, kIi, kVi, kRi, kLi, kIx, kVx, Option.some.injEq, exists_eq_left', true_and, and_true, true_implies, false_implies, implies_true, not_true_eq_false, not_false_eq_true, true_or, or_true, false_or, or_false, forall_eq, iteT, iteF, LK_ hK, LM_ hK.m, LB_ hK.b]
    have ho6 : ∀ j, j < n → I3 (x + 1 + 2 + 6) j = nI (ordN (bd I (x + 1 + 2)) j) := fun j hj => by rw [hs3' _ (by omega), hs2 _ (by omega)]; exact (hol j hj).1
    have si : ∀ j, j < n → swp (ordN (bd I (x + 1 + 2))) p j < n := fun j hj => swp_lt (fun j hj => (hol j hj).2) hp hj
    have sj : ∀ i j, i < n → j < n → swp (ordN (bd I (x + 1 + 2))) p i = swp (ordN (bd I (x + 1 + 2))) p j → i = j := fun i j hi hj q => mvd_inj (show p < n by omega) hp h.v.2.1 i j hi hj (by rw [mvd_swp, mvd_swp]; exact q)
    generalize hI4 : wr (wr I3 (x + 1 + 2 + 6) p (I3 (x + 1 + 2 + 6) (p + 1))) (x + 1 + 2 + 6) (p + 1) (I3 (x + 1 + 2 + 6) p) = I4
    have e4 : ∀ a, a ≠ x + 1 + 2 + 6 → I4 a = I3 a := fun a ha => by rw [← hI4, wrM1 ha, wrM1 ha]
    have hr4 : ROW (I4 (x + 1 + 2 + 6)) (swp (ordN (bd I (x + 1 + 2))) p) n := fun j hj => by
      rw [← hI4]
      unfold swp
      by_cases q1 : j = p
      · rw [if_pos q1, wrM2 (by omega), wrH rfl q1]; exact ho6 _ hp
      · rw [if_neg q1]
        by_cases q2 : j = p + 1
        · rw [if_pos q2, wrH rfl q2]; exact ho6 _ (by omega)
        · rw [if_neg q2, wrM2 q2, wrM2 q1]; exact ho6 j hj
    have hO : Oth (bd I (x + 1 + 2)) (bd I4 (x + 1 + 2)) n _ := Oth_of (fun a r1 r2 r3 => by rw [e4 a (by omega), hs3' a (by omega), hs2 a (by omega)]) hr4
    have em : ∀ a, x + 271 ≤ a → I4 a = I a := fun a ha => by rw [e4 a (by omega), hs3' a (by have := hC.1; omega), hs2 a (by omega)]
    refine ⟨I4, J, rfl, fun J2 => e246 (t246_0 ?_)⟩
    simp (disch := omega) only [vpT, nI_leI, nI_ltI, nI_eq, nleT, nleF, nltT, nltF, neqT, neqF, nI_add, pk_mul, subN, divN, nI_clamp, mI1, wrH, wrM1, wrM2, wrowH, wrowM, bI0, bI1, kIi, kVi, kRi, kLi, kIx, kVx, Option.some.injEq, exists_eq_left', true_and, and_true, true_implies, false_implies, implies_true, not_true_eq_false, not_false_eq_true, true_or, or_true, false_or, or_false, forall_eq, iteT, iteF, LK_ hK, LM_ hK.m, LB_ hK.b]
    refine mp_bestTrade (T := 1999) (S := bd I (x + 1 + 2)) (n := n) (sn := sn) (dn := dn) hK.m (by rw [wrM1 (by omega), em _ (by omega)]; exact h.r) h.i h.v.2.2.1 hol hsh hs3 fun I5 hs5 => t246_9 ?_
    rw [hpv]
    refine ⟨fun _ => ?_, fun q => absurd q hv⟩
    simp (disch := omega) only [vpT, nI_leI, nI_ltI, nI_eq, nleT, nleF, nltT, nltF, neqT, neqF, nI_add, pk_mul, subN, divN, nI_clamp, mI1, wrH, wrM1, wrM2, wrowH, wrowM, bI0, bI1, kIi, kVi, kRi, kLi, kIx, kVx, Option.some.injEq, exists_eq_left', true_and, and_true, true_implies, false_implies, implies_true, not_true_eq_false, not_false_eq_true, true_or, or_true, false_or, or_false, forall_eq, iteT, iteF, LK_ hK, LM_ hK.m, LB_ hK.b]
    refine mp_kp hK h (by rw [hs5 _ (by omega), wrM2 (by omega), em _ (by omega)]) (by rw [hs5 _ (by omega), wrM1 (by omega), em _ (by omega)]) (by rw [hs5 _ (by omega), wrM1 (by omega), em _ (by omega)]) fun I6 hs6 hf6 hP6 => t246_21 ?_
    have r6 : I6 (x + 271 + 1) = I (x + 271 + 1) := by rw [hs6 _ (by omega), hs5 _ (by omega), wrM1 (by omega), em _ (by omega)]
    simp (disch := omega) only [vpT, nI_leI, nI_ltI, nI_eq, nleT, nleF, nltT, nltF, neqT, neqF, nI_add, pk_mul, subN, divN, nI_clamp, mI1, wrH, wrM1, wrM2, wrowH, wrowM, bI0, bI1, kIi, kVi, kRi, kLi, kIx, kVx, Option.some.injEq, exists_eq_left', true_and, and_true, true_implies, false_implies, implies_true, not_true_eq_false, not_false_eq_true, true_or, or_true, false_or, or_false, forall_eq, iteT, iteF, LK_ hK, LM_ hK.m, LB_ hK.b]
    refine mp_laysTraded (S := bd I (x + 1 + 2)) (n := n) (sn := sn) (dn := dn) hK.m (by rw [r6]; exact h.r) h.i hol hp fun I7 hs7 hL7 => t246_26 ?_
    have r7 : I7 (x + 271 + 1) = I (x + 271 + 1) := by rw [hs7 _ (by omega), r6]
    simp (disch := omega) only [vpT, nI_leI, nI_ltI, nI_eq, nleT, nleF, nltT, nltF, neqT, neqF, nI_add, pk_mul, subN, divN, nI_clamp, mI1, wrH, wrM1, wrM2, wrowH, wrowM, bI0, bI1, kIi, kVi, kRi, kLi, kIx, kVx, Option.some.injEq, exists_eq_left', true_and, and_true, true_implies, false_implies, implies_true, not_true_eq_false, not_false_eq_true, true_or, or_true, false_or, or_false, forall_eq, iteT, iteF, LK_ hK, LM_ hK.m, LB_ hK.b]
    refine mp_takesOrder (S := bd I (x + 1 + 2)) (n := n) (sn := sn) (dn := dn) hK.m (by rw [r7]; exact h.r) h.i fun I8 hs8 q1 q2 => t246_30 ?_
    simp (disch := omega) only [vpT, nI_leI, nI_ltI, nI_eq, nleT, nleF, nltT, nltF, neqT, neqF, nI_add, pk_mul, subN, divN, nI_clamp, mI1, wrH, wrM1, wrM2, wrowH, wrowM, bI0, bI1, kIi, kVi, kRi, kLi, kIx, kVx, Option.some.injEq, exists_eq_left', true_and, and_true, true_implies, false_implies, implies_true, not_true_eq_false, not_false_eq_true, true_or, or_true, false_or, or_false, forall_eq, iteT, iteF, LK_ hK, LM_ hK.m, LB_ hK.b]
    refine fb (n' := n) (sn' := sn) (dn' := dn) h (hC.fr fun a r1 r2 => e4 a (by omega)) (fun a ha => by rw [e4 a (by omega), hs3' a (by omega), hs2 a (by omega)]) (fun a ha => by rw [hs8 a (by omega), hs7 a (by omega), hs6 a (by omega), hs5 a (by omega), wrM1 (by omega)]) (hP6.fr (by rw [hs8 _ (by omega), hs7 _ (by omega)]) (by rw [hs8 _ (by omega), hs7 _ (by omega)])) (fun j hj => by rw [hs8 _ (by omega), hs7 _ (by omega), hf6 j (by omega), hs5 _ (by omega), wrM2 (by omega)]) (by rw [hs8 _ (by omega), hs7 _ (by omega), hf6 0 (by omega), hs5 _ (by omega)]; exact wrH rfl rfl) (h.1.1.oth hO si sj) (hO.rel h.r hn hs4 hd20 (fun q hq => by rw [q1 q hq]; exact hL7.1 q hq) (fun j j1 j2 => by rw [q2 j j1, r7]))
theorem P_putIn {p1 : Int32} (hK : LK L x) (h : SX I0 I x n sn dn ac fi tp sd) : PR I0 L x 154 242 1 9 d e [.int p1] I J z l ex := by
  have hn := h.n10
  have hs4 := h.i.2.1.2
  have hd20 := h.i.2.2.1.2
  have hol := BI_or h.i
  have hfz := frz_le (S := bd I (x + 1 + 2)) (n := n)
  refine e154 (t154_0 ?_)
  simp (disch := omega) only [vpT, nI_leI, nI_ltI, nI_eq, nleT, nleF, nltT, nltF, neqT, neqF, nI_add, pk_mul, subN, divN, nI_clamp, mI1, wrH, wrM1, wrM2, wrowH, wrowM, bI0, bI1, kIi, kVi, kRi, kLi, kIx, kVx, Option.some.injEq, exists_eq_left', true_and, and_true, true_implies, false_implies, implies_true, not_true_eq_false, not_false_eq_true, true_or, or_true, false_or, or_false, forall_eq, iteT, iteF, LK_ hK, LM_ hK.m, LB_ hK.b, h.n0]
  refine sp_checkElement (fun q => Or.inl ⟨rfl, I, J, rfl, fun J2 => e242 (t242_0 ?_)⟩) (fun q1 q2 => t154_14 ?_)
  · simp (disch := omega) only [vpT, nI_leI, nI_ltI, nI_eq, nleT, nleF, nltT, nltF, neqT, neqF, nI_add, pk_mul, subN, divN, nI_clamp, mI1, wrH, wrM1, wrM2, wrowH, wrowM, bI0, bI1, kIi, kVi, kRi, kLi, kIx, kVx, Option.some.injEq, exists_eq_left', true_and, and_true, true_implies, false_implies, implies_true, not_true_eq_false, not_false_eq_true, true_or, or_true, false_or, or_false, forall_eq, iteT, iteF, LK_ hK, LM_ hK.m, LB_ hK.b]
    refine mp_isCraftF hK.m (by rw [wrM1 (by omega)]; exact h.m0) hn q (t242_11 ?_)
    simp (disch := omega) only [vpT, nI_leI, nI_ltI, nI_eq, nleT, nleF, nltT, nltF, neqT, neqF, nI_add, pk_mul, subN, divN, nI_clamp, mI1, wrH, wrM1, wrM2, wrowH, wrowM, bI0, bI1, kIi, kVi, kRi, kLi, kIx, kVx, Option.some.injEq, exists_eq_left', true_and, and_true, true_implies, false_implies, implies_true, not_true_eq_false, not_false_eq_true, true_or, or_true, false_or, or_false, forall_eq, iteT, iteF, LK_ hK, LM_ hK.m, LB_ hK.b]
    refine mp_rightF hK.m (wrH rfl rfl) (by decide) (by decide) (t242_15 ?_)
    simp (disch := omega) only [vpT, nI_leI, nI_ltI, nI_eq, nleT, nleF, nltT, nltF, neqT, neqF, nI_add, pk_mul, subN, divN, nI_clamp, mI1, wrH, wrM1, wrM2, wrowH, wrowM, bI0, bI1, kIi, kVi, kRi, kLi, kIx, kVx, Option.some.injEq, exists_eq_left', true_and, and_true, true_implies, false_implies, implies_true, not_true_eq_false, not_false_eq_true, true_or, or_true, false_or, or_false, forall_eq, iteT, iteF, LK_ hK, LM_ hK.m, LB_ hK.b]
    exact ff h same.rf rfl
  obtain ⟨c, hc, rfl⟩ := i_lt (by omega) q1 q2
  obtain ⟨a, ha, hac⟩ := pigeon (fun j hj => (hol j hj).2) h.v.2.1 c hc
  have pre : ∀ I3 J2 t F, (∀ a, x + 271 ≤ a → I3 a = I a) → (∀ I4, same (wr I3 (x + 271) 0 (nI 0)) I4 (ms (x + 271)) → Wp (cal (e + 39)) kc_242 [] F (30, [some (.ref (x + 271)), some (.int (nI c)), some (.int (nI (frz (bd I (x + 1 + 2)) n))), none], [.int (nI a)], (L, I4, J2, t))) → cal (e + 40) 242 [.ref (x + 271), .int (nI c)] (L, I3, J2, t) F := by
    intro I3 J2 t F em kk
    refine e242 (t242_0 ?_)
    simp (disch := omega) only [vpT, nI_leI, nI_ltI, nI_eq, nleT, nleF, nltT, nltF, neqT, neqF, nI_add, pk_mul, subN, divN, nI_clamp, mI1, wrH, wrM1, wrM2, wrowH, wrowM, bI0, bI1, kIi, kVi, kRi, kLi, kIx, kVx, Option.some.injEq, exists_eq_left', true_and, and_true, true_implies, false_implies, implies_true, not_true_eq_false, not_false_eq_true, true_or, or_true, false_or, or_false, forall_eq, iteT, iteF, LK_ hK, LM_ hK.m, LB_ hK.b]
    refine mp_isCraftT hK.m (by rw [wrM1 (by omega), em _ (by omega)]; exact h.m0) hn ⟨q1, q2⟩ (t242_11 ?_)
    simp (disch := omega) only [vpT, nI_leI, nI_ltI, nI_eq, nleT, nleF, nltT, nltF, neqT, neqF, nI_add, pk_mul, subN, divN, nI_clamp, mI1, wrH, wrM1, wrM2, wrowH, wrowM, bI0, bI1, kIi, kVi, kRi, kLi, kIx, kVx, Option.some.injEq, exists_eq_left', true_and, and_true, true_implies, false_implies, implies_true, not_true_eq_false, not_false_eq_true, true_or, or_true, false_or, or_false, forall_eq, iteT, iteF, LK_ hK, LM_ hK.m, LB_ hK.b]
    refine mp_rightT hK.m (wrH rfl rfl) (t242_15 ?_)
    simp (disch := omega) only [vpT, nI_leI, nI_ltI, nI_eq, nleT, nleF, nltT, nltF, neqT, neqF, nI_add, pk_mul, subN, divN, nI_clamp, mI1, wrH, wrM1, wrM2, wrowH, wrowM, bI0, bI1, kIi, kVi, kRi, kLi, kIx, kVx, Option.some.injEq, exists_eq_left', true_and, and_true, true_implies, false_implies, implies_true, not_true_eq_false, not_false_eq_true, true_or, or_true, false_or, or_false, forall_eq, iteT, iteF, LK_ hK, LM_ hK.m, LB_ hK.b]
    refine mp_frozenNow (S := bd I (x + 1 + 2)) (n := n) (sn := sn) (dn := dn) hK.m (by rw [wrM1 (by omega), em _ (by omega)]; exact h.r) h.i hol fun I4 hs4' hL4 => t242_24 ?_
    simp (disch := omega) only [vpT, nI_leI, nI_ltI, nI_eq, nleT, nleF, nltT, nltF, neqT, neqF, nI_add, pk_mul, subN, divN, nI_clamp, mI1, wrH, wrM1, wrM2, wrowH, wrowM, bI0, bI1, kIi, kVi, kRi, kLi, kIx, kVx, Option.some.injEq, exists_eq_left', true_and, and_true, true_implies, false_implies, implies_true, not_true_eq_false, not_false_eq_true, true_or, or_true, false_or, or_false, forall_eq, iteT, iteF, LK_ hK, LM_ hK.m, LB_ hK.b]
    refine mp_placeOf (S := bd I (x + 1 + 2)) (n := n) (sn := sn) (dn := dn) hK.m (by rw [hs4' _ (by omega), wrM1 (by omega), em _ (by omega)]; exact h.r) h.i h.v.2.1 hol ha hac ?_
    exact kk I4 hs4'
  simp (disch := omega) only [vpT, nI_leI, nI_ltI, nI_eq, nleT, nleF, nltT, nltF, neqT, neqF, nI_add, pk_mul, subN, divN, nI_clamp, mI1, wrH, wrM1, wrM2, wrowH, wrowM, bI0, bI1, kIi, kVi, kRi, kLi, kIx, kVx, Option.some.injEq, exists_eq_left', true_and, and_true, true_implies, false_implies, implies_true, not_true_eq_false, not_false_eq_true, true_or, or_true, false_or, or_false, forall_eq, iteT, iteF, LK_ hK, LM_ hK.m, LB_ hK.b]
  refine sp_placeToPutIn (a := a) hK.r h.i h.v.2.1 ha hac fun I2 hs2 => t154_22 ?_
  have em2 : ∀ a, x + 271 ≤ a → I2 a = I a := fun a ha => hs2 a (by omega)
  by_cases hv : pinR (bd I (x + 1 + 2)) n a = -1
  · rw [hv]
    refine ⟨fun _ => t154_54 ?_, fun q => absurd rfl q⟩
    simp (disch := omega) only [vpT, nI_leI, nI_ltI, nI_eq, nleT, nleF, nltT, nltF, neqT, neqF, nI_add, pk_mul, subN, divN, nI_clamp, mI1, wrH, wrM1, wrM2, wrowH, wrowM, bI0, bI1, kIi, kVi, kRi, kLi, kIx, kVx, Option.some.injEq, exists_eq_left', true_and, and_true, true_implies, false_implies, implies_true, not_true_eq_false, not_false_eq_true, true_or, or_true, false_or, or_false, forall_eq, iteT, iteF, LK_ hK, LM_ hK.m, LB_ hK.b]
    refine ⟨I2, J, rfl, fun J2 => pre _ _ _ _ em2 fun I4 hs4' => t242_30 ?_⟩
    have fin : ∀ I5, same I4 I5 (ms (x + 271)) → FN I0 L x 0 J2 (z, l, ex) (L, I5, J2, z, l, ex) := fun I5 hs5 => f2 h (hs2.up fun a ha => by omega) (em2 _ (by omega)) (fun q hq => by rw [hs5 q (by omega), hs4' q (by omega)]) (by rw [hs5 _ (by omega), hs4' _ (by omega), wrM1 (by omega)]) (by rw [hs5 _ (by omega), hs4' _ (by omega), wrM1 (by omega)]) (fun j hj => by rw [hs5 _ (by omega), hs4' _ (by omega)])
    by_cases hf : a < frz (bd I (x + 1 + 2)) n
    · simp (disch := omega) only [vpT, nI_leI, nI_ltI, nI_eq, nleT, nleF, nltT, nltF, neqT, neqF, nI_add, pk_mul, subN, divN, nI_clamp, mI1, wrH, wrM1, wrM2, wrowH, wrowM, bI0, bI1, kIi, kVi, kRi, kLi, kIx, kVx, Option.some.injEq, exists_eq_left', true_and, and_true, true_implies, false_implies, implies_true, not_true_eq_false, not_false_eq_true, true_or, or_true, false_or, or_false, forall_eq, iteT, iteF, LK_ hK, LM_ hK.m, LB_ hK.b]
      exact fin I4 same.rf
    · simp (disch := omega) only [vpT, nI_leI, nI_ltI, nI_eq, nleT, nleF, nltT, nltF, neqT, neqF, nI_add, pk_mul, subN, divN, nI_clamp, mI1, wrH, wrM1, wrM2, wrowH, wrowM, bI0, bI1, kIi, kVi, kRi, kLi, kIx, kVx, Option.some.injEq, exists_eq_left', true_and, and_true, true_implies, false_implies, implies_true, not_true_eq_false, not_false_eq_true, true_or, or_true, false_or, or_false, forall_eq, iteT, iteF, LK_ hK, LM_ hK.m, LB_ hK.b]
      refine mp_bestPlace (T := 1999) (S := bd I (x + 1 + 2)) (n := n) (sn := sn) (dn := dn) (a := a) hK.m (by rw [hs4' _ (by omega), wrM1 (by omega), em2 _ (by omega)]; exact h.r) h.i h.v.2.2.1 h.v.2.1 hol ha hac hfz fun I5 hs5 => t242_42 ?_
      unfold pinR at hv
      rw [if_neg hf] at hv
      rw [hv]
      refine ⟨fun q => absurd rfl q, fun _ => ?_⟩
      simp (disch := omega) only [vpT, nI_leI, nI_ltI, nI_eq, nleT, nleF, nltT, nltF, neqT, neqF, nI_add, pk_mul, subN, divN, nI_clamp, mI1, wrH, wrM1, wrM2, wrowH, wrowM, bI0, bI1, kIi, kVi, kRi, kLi, kIx, kVx, Option.some.injEq, exists_eq_left', true_and, and_true, true_implies, false_implies, implies_true, not_true_eq_false, not_false_eq_true, true_or, or_true, false_or, or_false, forall_eq, iteT, iteF, LK_ hK, LM_ hK.m, LB_ hK.b]
      exact fin I5 hs5
  · refine ⟨fun q => absurd q hv, fun _ => ?_⟩
    have hf : ¬ a < frz (bd I (x + 1 + 2)) n := fun q => hv (by unfold pinR; rw [if_pos q])
    have epin : pinR (bd I (x + 1 + 2)) n a = (bst (pokS (bd I (x + 1 + 2)) n a) (pcoS (bd I (x + 1 + 2)) n a) (frz (bd I (x + 1 + 2)) n) (n - frz (bd I (x + 1 + 2)) n)).1 := by unfold pinR; rw [if_neg hf]
    have := bst_val (ok := pokS (bd I (x + 1 + 2)) n a) (co := pcoS (bd I (x + 1 + 2)) n a) (f := frz (bd I (x + 1 + 2)) n) (m := n - frz (bd I (x + 1 + 2)) n)
    rw [← epin] at this
    obtain ⟨p, hp1, hp2, hpv⟩ := this.resolve_left hv
    rw [hpv] at hv ⊢
    have hp : p < n := by omega
    simp (disch := omega) only [vpT, nI_leI, nI_ltI, nI_eq, nleT, nleF, nltT, nltF, neqT, neqF, nI_add, pk_mul, subN, divN, nI_clamp, mI1, wrH, wrM1, wrM2, wrowH, wrowM, bI0, bI1, kIi, kVi, kRi, kLi, kIx, kVx, Option.some.injEq, exists_eq_left', true_and, and_true, true_implies, false_implies, implies_true, not_true_eq_false, not_false_eq_true, true_or, or_true, false_or, or_false, forall_eq, iteT, iteF, LK_ hK, LM_ hK.m, LB_ hK.b]
    refine sp_kp hK h (fun a r1 r2 r3 => hs2 a (by omega)) fun I3 fi' s hC hs3' => t154_42 ?_
    have eb3 : bd I3 (x + 1 + 2) = bd I (x + 1 + 2) := by rw [hs3'.bd (fun a r1 r2 => by omega), hs2.bd (fun a r1 r2 => by omega)]
    simp (disch := omega) only [vpT, nI_leI, nI_ltI, nI_eq, nleT, nleF, nltT, nltF, neqT, neqF, nI_add, pk_mul, subN, divN, nI_clamp, mI1, wrH, wrM1, wrM2, wrowH, wrowM, bI0, bI1, kIi, kVi, kRi, kLi, kIx, kVx, Option.some.injEq, exists_eq_left', true_and, and_true, true_implies, false_implies, implies_true, not_true_eq_false, not_false_eq_true, true_or, or_true, false_or, or_false, forall_eq, iteT, iteF, LK_ hK, LM_ hK.m, LB_ hK.b]
    refine sp_moveTo (n := n) (sn := sn) (dn := dn) (a := a) hK.b (by rw [eb3]; exact h.i) (by rw [eb3]; exact h.v.2.1) ha (by rw [eb3]; exact hac) hp fun I4 hs4' hr4 => t154_54 ?_
    rw [eb3] at hr4
    simp (disch := omega) only [vpT, nI_leI, nI_ltI, nI_eq, nleT, nleF, nltT, nltF, neqT, neqF, nI_add, pk_mul, subN, divN, nI_clamp, mI1, wrH, wrM1, wrM2, wrowH, wrowM, bI0, bI1, kIi, kVi, kRi, kLi, kIx, kVx, Option.some.injEq, exists_eq_left', true_and, and_true, true_implies, false_implies, implies_true, not_true_eq_false, not_false_eq_true, true_or, or_true, false_or, or_false, forall_eq, iteT, iteF, LK_ hK, LM_ hK.m, LB_ hK.b]
    have hO : Oth (bd I (x + 1 + 2)) (bd I4 (x + 1 + 2)) n _ := Oth_of (fun a r1 r2 r3 => by rw [hs4' a (by omega), hs3' a (by omega), hs2 a (by omega)]) hr4
    have em : ∀ a, x + 271 ≤ a → I4 a = I a := fun a ha => by rw [hs4' a (by omega), hs3' a (by have := hC.1; omega), hs2 a (by omega)]
    refine ⟨I4, J, rfl, fun J2 => pre _ _ _ _ em fun I5 hs5 => t242_30 ?_⟩
    have r5 : I5 (x + 271 + 1) = I (x + 271 + 1) := by rw [hs5 _ (by omega), wrM1 (by omega), em _ (by omega)]
    simp (disch := omega) only [vpT, nI_leI, nI_ltI, nI_eq, nleT, nleF, nltT, nltF, neqT, neqF, nI_add, pk_mul, subN, divN, nI_clamp, mI1, wrH, wrM1, wrM2, wrowH, wrowM, bI0, bI1, kIi, kVi, kRi, kLi, kIx, kVx, Option.some.injEq, exists_eq_left', true_and, and_true, true_implies, false_implies, implies_true, not_true_eq_false, not_false_eq_true, true_or, or_true, false_or, or_false, forall_eq, iteT, iteF, LK_ hK, LM_ hK.m, LB_ hK.b]
    refine mp_bestPlace (T := 1999) (S := bd I (x + 1 + 2)) (n := n) (sn := sn) (dn := dn) (a := a) hK.m (by rw [r5]; exact h.r) h.i h.v.2.2.1 h.v.2.1 hol ha hac hfz fun I5' hs5' => t242_42 ?_
    rw [← epin, hpv]
    refine ⟨fun _ => ?_, fun q => absurd q hv⟩
    simp (disch := omega) only [vpT, nI_leI, nI_ltI, nI_eq, nleT, nleF, nltT, nltF, neqT, neqF, nI_add, pk_mul, subN, divN, nI_clamp, mI1, wrH, wrM1, wrM2, wrowH, wrowM, bI0, bI1, kIi, kVi, kRi, kLi, kIx, kVx, Option.some.injEq, exists_eq_left', true_and, and_true, true_implies, false_implies, implies_true, not_true_eq_false, not_false_eq_true, true_or, or_true, false_or, or_false, forall_eq, iteT, iteF, LK_ hK, LM_ hK.m, LB_ hK.b]
    refine mp_kp hK h (by rw [hs5' _ (by omega), hs5 _ (by omega), wrM2 (by omega), em _ (by omega)]) (by rw [hs5' _ (by omega), r5]) (by rw [hs5' _ (by omega), hs5 _ (by omega), wrM1 (by omega), em _ (by omega)]) fun I6 hs6 hf6 hP6 => t242_54 ?_
    have r6 : I6 (x + 271 + 1) = I (x + 271 + 1) := by rw [hs6 _ (by omega), hs5' _ (by omega), r5]
    simp (disch := omega) only [vpT, nI_leI, nI_ltI, nI_eq, nleT, nleF, nltT, nltF, neqT, neqF, nI_add, pk_mul, subN, divN, nI_clamp, mI1, wrH, wrM1, wrM2, wrowH, wrowM, bI0, bI1, kIi, kVi, kRi, kLi, kIx, kVx, Option.some.injEq, exists_eq_left', true_and, and_true, true_implies, false_implies, implies_true, not_true_eq_false, not_false_eq_true, true_or, or_true, false_or, or_false, forall_eq, iteT, iteF, LK_ hK, LM_ hK.m, LB_ hK.b]
    refine mp_laysWith (S := bd I (x + 1 + 2)) (n := n) (sn := sn) (dn := dn) (a := a) hK.m (by rw [r6]; exact h.r) h.i h.v.2.1 hol ha hac hp fun I7 hs7 hL7 => t242_60 ?_
    have r7 : I7 (x + 271 + 1) = I (x + 271 + 1) := by rw [hs7 _ (by omega), r6]
    simp (disch := omega) only [vpT, nI_leI, nI_ltI, nI_eq, nleT, nleF, nltT, nltF, neqT, neqF, nI_add, pk_mul, subN, divN, nI_clamp, mI1, wrH, wrM1, wrM2, wrowH, wrowM, bI0, bI1, kIi, kVi, kRi, kLi, kIx, kVx, Option.some.injEq, exists_eq_left', true_and, and_true, true_implies, false_implies, implies_true, not_true_eq_false, not_false_eq_true, true_or, or_true, false_or, or_false, forall_eq, iteT, iteF, LK_ hK, LM_ hK.m, LB_ hK.b]
    refine mp_takesOrder (S := bd I (x + 1 + 2)) (n := n) (sn := sn) (dn := dn) hK.m (by rw [r7]; exact h.r) h.i fun I8 hs8 q1 q2 => t242_64 ?_
    simp (disch := omega) only [vpT, nI_leI, nI_ltI, nI_eq, nleT, nleF, nltT, nltF, neqT, neqF, nI_add, pk_mul, subN, divN, nI_clamp, mI1, wrH, wrM1, wrM2, wrowH, wrowM, bI0, bI1, kIi, kVi, kRi, kLi, kIx, kVx, Option.some.injEq, exists_eq_left', true_and, and_true, true_implies, false_implies, implies_true, not_true_eq_false, not_false_eq_true, true_or, or_true, false_or, or_false, forall_eq, iteT, iteF, LK_ hK, LM_ hK.m, LB_ hK.b]
    refine fb (n' := n) (sn' := sn) (dn' := dn) h (hC.fr fun a r1 r2 => hs4' a (by omega)) (fun a ha => by rw [hs4' a (by omega), hs3' a (by omega), hs2 a (by omega)]) (fun a ha => by rw [hs8 a (by omega), hs7 a (by omega), hs6 a (by omega), hs5' a (by omega), hs5 a (by omega), wrM1 (by omega)]) (hP6.fr (by rw [hs8 _ (by omega), hs7 _ (by omega)]) (by rw [hs8 _ (by omega), hs7 _ (by omega)])) (fun j hj => by rw [hs8 _ (by omega), hs7 _ (by omega), hf6 j (by omega), hs5' _ (by omega), hs5 _ (by omega), wrM2 (by omega)]) (by rw [hs8 _ (by omega), hs7 _ (by omega), hf6 0 (by omega), hs5' _ (by omega), hs5 _ (by omega)]; exact wrH rfl rfl) (h.1.1.oth hO (fun j hj => mvd_lt (fun j hj => (hol j hj).2) ha hp hj) (mvd_inj ha hp h.v.2.1)) (hO.rel h.r hn hs4 hd20 (fun q hq => by rw [q1 q hq]; exact hL7.1 q hq) (fun j j1 j2 => by rw [q2 j j1, r7]))
end CALLS5
