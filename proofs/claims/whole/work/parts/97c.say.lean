/-! The law's calls: say. -/
abbrev TX : Type := (Nat → Nat) × Nat
def push (T : TX) (c : Nat) : TX := (fun i => if i = T.2 then c else T.1 i, T.2 + 1)
def num (T : TX) (v : Nat) : TX := if v < 10 then push T (48 + v) else if v < 100 then push (push T (48 + v / 10)) (48 + v % 10) else if v < 1000 then push (push (push T (48 + v / 100)) (48 + v / 10 % 10)) (48 + v % 10) else push (push (push (push T (48 + v / 1000)) (48 + v / 100 % 10)) (48 + v / 10 % 10)) (48 + v % 10)
theorem num_len {T : TX} {v : Nat} : (num T v).2 ≤ T.2 + 4 := by
  unfold num
  split
  · show T.2 + 1 ≤ _; omega
  · split
    · show T.2 + 1 + 1 ≤ _; omega
    · split
      · show T.2 + 1 + 1 + 1 ≤ _; omega
      · show T.2 + 1 + 1 + 1 + 1 ≤ _; omega
def SAY (I : Nat → Nat → Int32) (o r fl : Nat) (T : TX) : Prop := I o fl = nI T.2 ∧ ∀ i, i < T.2 → I r i = nI (T.1 i)
def WRT (I I2 : Nat → Nat → Int32) (o r fl : Nat) (T : TX) : Prop := same I I2 (fun a => a = o ∨ a = r) ∧ (∀ j, j ≠ fl → I2 o j = I o j) ∧ SAY I2 o r fl T
theorem WRT.tr {I I2 I3 : Nat → Nat → Int32} {o r fl : Nat} {T T2 : TX} (h : WRT I I2 o r fl T) (h2 : WRT I2 I3 o r fl T2) : WRT I I3 o r fl T2 := ⟨h.1.tr h2.1, fun j hj => (h2.2.1 j hj).trans (h.2.1 j hj), h2.2.2⟩
theorem WRT.rf {I : Nat → Nat → Int32} {o r fl : Nat} {T : TX} (h : SAY I o r fl T) : WRT I I o r fl T := ⟨same.rf, fun _ _ => rfl, h⟩
theorem WRT_mk {I : Nat → Nat → Int32} {o r fl c : Nat} {T : TX} (hor : o ≠ r) (h : SAY I o r fl T) : WRT I (wr (wr I r T.2 (nI c)) o fl (nI (T.2 + 1))) o r fl (push T c) := by
  have hro : r ≠ o := fun q => hor q.symm
  refine ⟨fun a ha => ?_, fun j hj => ?_, wrH rfl rfl, fun i hi => ?_⟩
  · rw [wrM1 (fun q => ha (Or.inl q)), wrM1 (fun q => ha (Or.inr q))]
  · rw [wrM2 hj, wrM1 hor]
  · show _ = nI (if i = T.2 then c else T.1 i)
    rw [wrM1 hro]
    have hi : i < T.2 + 1 := hi
    by_cases q : i = T.2
    · rw [if_pos q]; exact wrH rfl q
    · rw [if_neg q, wrM2 q]; exact h.2 i (by omega)
theorem b128 {c : Nat} (h : c < 128) : (nI c).toInt8.toInt32.toInt8.toInt32 = nI c := by
  have : ∀ c, c < 128 → (nI c).toInt8.toInt32.toInt8.toInt32 = nI c := by decide +kernel
  exact this c h
theorem c16 {c : Nat} (h : c < 128) : ((nI c).toUInt32 % 65536).toInt32 = nI c := by
  have : ∀ c, c < 128 → ((nI c).toUInt32 % 65536).toInt32 = nI c := by decide +kernel
  exact this c h
section SAYS
variable {I0 I : Nat → Nat → Int32} {J : Nat → Nat → Int64} {L : hL} {x n sn dn ac fi tp sd c v : Nat} {t : tl} {T : TX} {F : Int32 → hp → Prop} {G : hp → Prop} {X : Nat → hp → Prop} {d e z l : Nat} {ex : Bool}
--facts LK_ hK, LM_ hK.m, LB_ hK.b
theorem sp_add (hK : LK L x) (hc : c < 128) (hS : SAY I (x + 268) (x + 269) 1 T) (hl : T.2 < 150) (k : ∀ I2, WRT I I2 (x + 268) (x + 269) 1 (push T c) → G (L, I2, J, t)) : cal (d + 1) 57 [.ref (x + 268), .int (nI c)] (L, I, J, t) (kV G X) := by
  refine e57 (t57_0 ?_)
  simp (disch := omega) only [vpT, nI_leI, nI_ltI, nI_eq, nleT, nleF, nltT, nltF, neqT, neqF, nI_add, pk_mul, subN, divN, nI_clamp, mI1, wrH, wrM1, wrM2, wrowH, wrowM, bI0, bI1, kIi, kVi, kRi, kLi, kIx, kVx, Option.some.injEq, exists_eq_left', true_and, and_true, true_implies, false_implies, implies_true, not_true_eq_false, not_false_eq_true, true_or, or_true, false_or, or_false, forall_eq, iteT, iteF, LK_ hK, LM_ hK.m, LB_ hK.b, hS.1, b128]
  exact k _ (WRT_mk (by omega) hS)
theorem mp_says (hK : LK L x) (hc : c < 128) (hS : SAY I (x + 271) (x + 271 + 9) 29 T) (hl : T.2 < 200) (k : ∀ I2, WRT I I2 (x + 271) (x + 271 + 9) 29 (push T c) → G (L, I2, J, t)) : cal (d + 1) 260 [.ref (x + 271), .int (nI c)] (L, I, J, t) (kV G X) := by
  refine e260 (t260_0 ?_)
  simp (disch := omega) only [vpT, nI_leI, nI_ltI, nI_eq, nleT, nleF, nltT, nltF, neqT, neqF, nI_add, pk_mul, subN, divN, nI_clamp, mI1, wrH, wrM1, wrM2, wrowH, wrowM, bI0, bI1, kIi, kVi, kRi, kLi, kIx, kVx, Option.some.injEq, exists_eq_left', true_and, and_true, true_implies, false_implies, implies_true, not_true_eq_false, not_false_eq_true, true_or, or_true, false_or, or_false, forall_eq, iteT, iteF, LK_ hK, LM_ hK.m, LB_ hK.b, hS.1, b128]
  exact k _ (WRT_mk (by omega) hS)
theorem sp_num (hK : LK L x) (hv : v < 10000) (hS : SAY I (x + 268) (x + 269) 1 T) (hl : T.2 + 4 ≤ 150) (k : ∀ I2, WRT I I2 (x + 268) (x + 269) 1 (num T v) → G (L, I2, J, t)) : cal (d + 2) 59 [.ref (x + 268), .int (nI v)] (L, I, J, t) (kV G X) := by
  refine e59 (t59_0 ?_)
  have stp : ∀ (u : Nat) (u3 : Int32) I2 (T2 : TX), 0 < u → u < 10000 → SAY I2 (x + 268) (x + 269) 1 T2 → T2.2 < 150 → (∀ I3, WRT I2 I3 (x + 268) (x + 269) 1 (push T2 (48 + v / u % 10)) → Wp (cal (d + 1)) kc_59 [] (kV G X) (29, [some (.ref (x + 268)), some (.int (nI v)), some (.int (nI (u / 10))), some (.int u3)], [], (L, I3, J, t))) → Wp (cal (d + 1)) kc_59 [] (kV G X) (29, [some (.ref (x + 268)), some (.int (nI v)), some (.int (nI u)), some (.int u3)], [], (L, I2, J, t)) := by
    intro u u3 I2 T2 h1 h2 hs hl2 kk
    refine t59_29 ?_
    have hq : v / u < 10000 := Nat.lt_of_le_of_lt (Nat.div_le_self _ _) hv
    have hr : v / u % 10 < 10 := Nat.mod_lt _ (by decide)
    have h10 : v / u - v / u / 10 * 10 = v / u % 10 := by generalize v / u = q; omega
    simp (disch := omega) only [vpT, nI_leI, nI_ltI, nI_eq, nleT, nleF, nltT, nltF, neqT, neqF, nI_add, pk_mul, subN, divN, nI_clamp, mI1, wrH, wrM1, wrM2, wrowH, wrowM, bI0, bI1, kIi, kVi, kRi, kLi, kIx, kVx, Option.some.injEq, exists_eq_left', true_and, and_true, true_implies, false_implies, implies_true, not_true_eq_false, not_false_eq_true, true_or, or_true, false_or, or_false, forall_eq, iteT, iteF, LK_ hK, LM_ hK.m, LB_ hK.b, h10, c16]
    refine sp_add hK (by omega) hs hl2 fun I3 hw => t59_47 ?_
    simp (disch := omega) only [vpT, nI_leI, nI_ltI, nI_eq, nleT, nleF, nltT, nltF, neqT, neqF, nI_add, pk_mul, subN, divN, nI_clamp, mI1, wrH, wrM1, wrM2, wrowH, wrowM, bI0, bI1, kIi, kVi, kRi, kLi, kIx, kVx, Option.some.injEq, exists_eq_left', true_and, and_true, true_implies, false_implies, implies_true, not_true_eq_false, not_false_eq_true, true_or, or_true, false_or, or_false, forall_eq, iteT, iteF, LK_ hK, LM_ hK.m, LB_ hK.b]
    exact kk I3 hw
  have last : ∀ I2 (u3 : Int32), G (L, I2, J, t) → Wp (cal (d + 1)) kc_59 [] (kV G X) (29, [some (.ref (x + 268)), some (.int (nI v)), some (.int (nI 0)), some (.int u3)], [], (L, I2, J, t)) := fun I2 u3 kk => by
    refine t59_29 ?_
    simp (disch := omega) only [vpT, nI_leI, nI_ltI, nI_eq, nleT, nleF, nltT, nltF, neqT, neqF, nI_add, pk_mul, subN, divN, nI_clamp, mI1, wrH, wrM1, wrM2, wrowH, wrowM, bI0, bI1, kIi, kVi, kRi, kLi, kIx, kVx, Option.some.injEq, exists_eq_left', true_and, and_true, true_implies, false_implies, implies_true, not_true_eq_false, not_false_eq_true, true_or, or_true, false_or, or_false, forall_eq, iteT, iteF, LK_ hK, LM_ hK.m, LB_ hK.b]
    exact kk
  have up : ∀ (u f : Nat), 0 < u → u * 10 ≤ 10000 → f < 10 → 10 ≤ v / u → Wp (cal (d + 1)) kc_59 [] (kV G X) (4, [some (.ref (x + 268)), some (.int (nI v)), some (.int (nI (u * 10))), some (.int (nI (f + 1)))], [], (L, I, J, t)) → Wp (cal (d + 1)) kc_59 [] (kV G X) (4, [some (.ref (x + 268)), some (.int (nI v)), some (.int (nI u)), some (.int (nI f))], [], (L, I, J, t)) := by
    intro u f h1 h2 h3 h4 kk
    refine t59_4 ?_
    have hq : v / u < 10000 := Nat.lt_of_le_of_lt (Nat.div_le_self _ _) hv
    simp (disch := omega) only [vpT, nI_leI, nI_ltI, nI_eq, nleT, nleF, nltT, nltF, neqT, neqF, nI_add, pk_mul, subN, divN, nI_clamp, mI1, wrH, wrM1, wrM2, wrowH, wrowM, bI0, bI1, kIi, kVi, kRi, kLi, kIx, kVx, Option.some.injEq, exists_eq_left', true_and, and_true, true_implies, false_implies, implies_true, not_true_eq_false, not_false_eq_true, true_or, or_true, false_or, or_false, forall_eq, iteT, iteF, LK_ hK, LM_ hK.m, LB_ hK.b]
    exact kk
  have ext : ∀ (u f : Nat), 0 < u → u < 10000 → f < 10 → v / u < 10 → Wp (cal (d + 1)) kc_59 [] (kV G X) (29, [some (.ref (x + 268)), some (.int (nI v)), some (.int (nI u)), some (.int (nI f))], [], (L, I, J, t)) → Wp (cal (d + 1)) kc_59 [] (kV G X) (4, [some (.ref (x + 268)), some (.int (nI v)), some (.int (nI u)), some (.int (nI f))], [], (L, I, J, t)) := by
    intro u f h1 h2 h3 h4 kk
    refine t59_4 ?_
    simp (disch := omega) only [vpT, nI_leI, nI_ltI, nI_eq, nleT, nleF, nltT, nltF, neqT, neqF, nI_add, pk_mul, subN, divN, nI_clamp, mI1, wrH, wrM1, wrM2, wrowH, wrowM, bI0, bI1, kIi, kVi, kRi, kLi, kIx, kVx, Option.some.injEq, exists_eq_left', true_and, and_true, true_implies, false_implies, implies_true, not_true_eq_false, not_false_eq_true, true_or, or_true, false_or, or_false, forall_eq, iteT, iteF, LK_ hK, LM_ hK.m, LB_ hK.b]
    exact kk
  by_cases v1 : v < 10
  · refine ext 1 1 (by decide) (by decide) (by decide) (by omega) (stp 1 _ I T (by decide) (by decide) hS (by omega) fun I2 w2 => last _ _ (k I2 ?_))
    rw [show num T v = push T (48 + v) from if_pos v1]
    rw [show v / 1 % 10 = v by omega] at w2
    exact w2
  by_cases v2 : v < 100
  · refine up 1 1 (by decide) (by decide) (by decide) (by omega) (ext 10 2 (by decide) (by decide) (by decide) (by omega) (stp 10 _ I T (by decide) (by decide) hS (by omega) fun I2 w2 => stp 1 _ I2 _ (by decide) (by decide) w2.2.2 (show T.2 + 1 < 150 by omega) fun I3 w3 => last _ _ (k I3 ?_)))
    rw [show num T v = push (push T (48 + v / 10)) (48 + v % 10) by unfold num; rw [if_neg v1, if_pos v2]]
    rw [show v / 10 % 10 = v / 10 by omega] at w2 w3
    rw [show v / 1 % 10 = v % 10 by omega] at w3
    exact w2.tr w3
  by_cases v3 : v < 1000
  · refine up 1 1 (by decide) (by decide) (by decide) (by omega) (up 10 2 (by decide) (by decide) (by decide) (by omega) (ext 100 3 (by decide) (by decide) (by decide) (by omega) (stp 100 _ I T (by decide) (by decide) hS (by omega) fun I2 w2 => stp 10 _ I2 _ (by decide) (by decide) w2.2.2 (show T.2 + 1 < 150 by omega) fun I3 w3 => stp 1 _ I3 _ (by decide) (by decide) w3.2.2 (show T.2 + 1 + 1 < 150 by omega) fun I4 w4 => last _ _ (k I4 ?_))))
    rw [show num T v = push (push (push T (48 + v / 100)) (48 + v / 10 % 10)) (48 + v % 10) by unfold num; rw [if_neg v1, if_neg v2, if_pos v3]]
    rw [show v / 100 % 10 = v / 100 by omega] at w2 w3 w4
    rw [show v / 1 % 10 = v % 10 by omega] at w4
    exact (w2.tr w3).tr w4
  · refine up 1 1 (by decide) (by decide) (by decide) (by omega) (up 10 2 (by decide) (by decide) (by decide) (by omega) (up 100 3 (by decide) (by decide) (by decide) (by omega) (ext 1000 4 (by decide) (by decide) (by decide) (by omega) (stp 1000 _ I T (by decide) (by decide) hS (by omega) fun I2 w2 => stp 100 _ I2 _ (by decide) (by decide) w2.2.2 (show T.2 + 1 < 150 by omega) fun I3 w3 => stp 10 _ I3 _ (by decide) (by decide) w3.2.2 (show T.2 + 1 + 1 < 150 by omega) fun I4 w4 => stp 1 _ I4 _ (by decide) (by decide) w4.2.2 (show T.2 + 1 + 1 + 1 < 150 by omega) fun I5 w5 => last _ _ (k I5 ?_)))))
    rw [show num T v = push (push (push (push T (48 + v / 1000)) (48 + v / 100 % 10)) (48 + v / 10 % 10)) (48 + v % 10) by unfold num; rw [if_neg v1, if_neg v2, if_neg v3]]
    rw [show v / 1000 % 10 = v / 1000 by omega] at w2 w3 w4 w5
    rw [show v / 1 % 10 = v % 10 by omega] at w5
    exact ((w2.tr w3).tr w4).tr w5
theorem mp_num1 (hK : LK L x) (hv : v < 10) (hS : SAY I (x + 271) (x + 271 + 9) 29 T) (hl : T.2 < 200) (k : ∀ I2, WRT I I2 (x + 271) (x + 271 + 9) 29 (push T (48 + v)) → G (L, I2, J, t)) : cal (d + 2) 261 [.ref (x + 271), .int (nI v)] (L, I, J, t) (kV G X) := by
  refine e261 (t261_0 ?_)
  simp (disch := omega) only [vpT, nI_leI, nI_ltI, nI_eq, nleT, nleF, nltT, nltF, neqT, neqF, nI_add, pk_mul, subN, divN, nI_clamp, mI1, wrH, wrM1, wrM2, wrowH, wrowM, bI0, bI1, kIi, kVi, kRi, kLi, kIx, kVx, Option.some.injEq, exists_eq_left', true_and, and_true, true_implies, false_implies, implies_true, not_true_eq_false, not_false_eq_true, true_or, or_true, false_or, or_false, forall_eq, iteT, iteF, LK_ hK, LM_ hK.m, LB_ hK.b]
  refine t261_14 ?_
  have hr : v - v / 10 * 10 = v := by omega
  simp (disch := omega) only [vpT, nI_leI, nI_ltI, nI_eq, nleT, nleF, nltT, nltF, neqT, neqF, nI_add, pk_mul, subN, divN, nI_clamp, mI1, wrH, wrM1, wrM2, wrowH, wrowM, bI0, bI1, kIi, kVi, kRi, kLi, kIx, kVx, Option.some.injEq, exists_eq_left', true_and, and_true, true_implies, false_implies, implies_true, not_true_eq_false, not_false_eq_true, true_or, or_true, false_or, or_false, forall_eq, iteT, iteF, LK_ hK, LM_ hK.m, LB_ hK.b, hr]
  refine mp_says hK (by omega) hS hl fun I2 w => t261_25 ?_
  simp (disch := omega) only [vpT, nI_leI, nI_ltI, nI_eq, nleT, nleF, nltT, nltF, neqT, neqF, nI_add, pk_mul, subN, divN, nI_clamp, mI1, wrH, wrM1, wrM2, wrowH, wrowM, bI0, bI1, kIi, kVi, kRi, kLi, kIx, kVx, Option.some.injEq, exists_eq_left', true_and, and_true, true_implies, false_implies, implies_true, not_true_eq_false, not_false_eq_true, true_or, or_true, false_or, or_false, forall_eq, iteT, iteF, LK_ hK, LM_ hK.m, LB_ hK.b]
  exact k I2 w
theorem mp_numS {T2 : TX} (hK : LK L x) (hv : v < 10000) (h10 : 10 ≤ v) (rec1 : ∀ G : hp → Prop, (∀ I2, WRT I I2 (x + 271) (x + 271 + 9) 29 T2 → G (L, I2, J, t)) → cal (d + 1) 261 [.ref (x + 271), .int (nI (v / 10))] (L, I, J, t) (kV G X)) (hl : T2.2 < 200) (k : ∀ I2, WRT I I2 (x + 271) (x + 271 + 9) 29 (push T2 (48 + v % 10)) → G (L, I2, J, t)) : cal (d + 2) 261 [.ref (x + 271), .int (nI v)] (L, I, J, t) (kV G X) := by
  refine e261 (t261_0 ?_)
  simp (disch := omega) only [vpT, nI_leI, nI_ltI, nI_eq, nleT, nleF, nltT, nltF, neqT, neqF, nI_add, pk_mul, subN, divN, nI_clamp, mI1, wrH, wrM1, wrM2, wrowH, wrowM, bI0, bI1, kIi, kVi, kRi, kLi, kIx, kVx, Option.some.injEq, exists_eq_left', true_and, and_true, true_implies, false_implies, implies_true, not_true_eq_false, not_false_eq_true, true_or, or_true, false_or, or_false, forall_eq, iteT, iteF, LK_ hK, LM_ hK.m, LB_ hK.b]
  refine rec1 _ fun I2 w => t261_14 ?_
  have hr : v - v / 10 * 10 = v % 10 := by omega
  simp (disch := omega) only [vpT, nI_leI, nI_ltI, nI_eq, nleT, nleF, nltT, nltF, neqT, neqF, nI_add, pk_mul, subN, divN, nI_clamp, mI1, wrH, wrM1, wrM2, wrowH, wrowM, bI0, bI1, kIi, kVi, kRi, kLi, kIx, kVx, Option.some.injEq, exists_eq_left', true_and, and_true, true_implies, false_implies, implies_true, not_true_eq_false, not_false_eq_true, true_or, or_true, false_or, or_false, forall_eq, iteT, iteF, LK_ hK, LM_ hK.m, LB_ hK.b, hr]
  refine mp_says hK (by omega) w.2.2 hl fun I3 w3 => t261_25 ?_
  simp (disch := omega) only [vpT, nI_leI, nI_ltI, nI_eq, nleT, nleF, nltT, nltF, neqT, neqF, nI_add, pk_mul, subN, divN, nI_clamp, mI1, wrH, wrM1, wrM2, wrowH, wrowM, bI0, bI1, kIi, kVi, kRi, kLi, kIx, kVx, Option.some.injEq, exists_eq_left', true_and, and_true, true_implies, false_implies, implies_true, not_true_eq_false, not_false_eq_true, true_or, or_true, false_or, or_false, forall_eq, iteT, iteF, LK_ hK, LM_ hK.m, LB_ hK.b]
  exact k I3 (w.tr w3)
theorem mp_num (hK : LK L x) (hv : v < 10000) (hS : SAY I (x + 271) (x + 271 + 9) 29 T) (hl : T.2 + 4 ≤ 200) (k : ∀ I2, WRT I I2 (x + 271) (x + 271 + 9) 29 (num T v) → G (L, I2, J, t)) : cal (d + 5) 261 [.ref (x + 271), .int (nI v)] (L, I, J, t) (kV G X) := by
  by_cases v1 : v < 10
  · rw [show num T v = push T (48 + v) from if_pos v1] at k
    exact mp_num1 hK v1 hS (by omega) k
  by_cases v2 : v < 100
  · rw [show num T v = push (push T (48 + v / 10)) (48 + v % 10) by unfold num; rw [if_neg v1, if_pos v2]] at k
    exact mp_numS hK hv (by omega) (fun G g => mp_num1 hK (by omega) hS (by omega) g) (show T.2 + 1 < 200 by omega) k
  by_cases v3 : v < 1000
  · rw [show num T v = push (push (push T (48 + v / 100)) (48 + v / 10 % 10)) (48 + v % 10) by unfold num; rw [if_neg v1, if_neg v2, if_pos v3]] at k
    refine mp_numS (T2 := push (push T (48 + v / 100)) (48 + v / 10 % 10)) hK hv (by omega) (fun G g => mp_numS (T2 := push T (48 + v / 100)) hK (by omega) (by omega) (fun G g => ?_) (show T.2 + 1 < 200 by omega) g) (show T.2 + 1 + 1 < 200 by omega) k
    rw [show v / 10 / 10 = v / 100 by omega]
    exact mp_num1 hK (by omega) hS (by omega) g
  · rw [show num T v = push (push (push (push T (48 + v / 1000)) (48 + v / 100 % 10)) (48 + v / 10 % 10)) (48 + v % 10) by unfold num; rw [if_neg v1, if_neg v2, if_neg v3]] at k
    refine mp_numS (T2 := push (push (push T (48 + v / 1000)) (48 + v / 100 % 10)) (48 + v / 10 % 10)) hK hv (by omega) (fun G g => mp_numS (T2 := push (push T (48 + v / 1000)) (48 + v / 100 % 10)) hK (by omega) (by omega) (fun G g => ?_) (show T.2 + 1 + 1 < 200 by omega) g) (show T.2 + 1 + 1 + 1 < 200 by omega) k
    rw [show v / 10 / 10 = v / 100 by omega]
    refine mp_numS (T2 := push T (48 + v / 1000)) hK (by omega) (by omega) (fun G g => ?_) (show T.2 + 1 < 200 by omega) g
    rw [show v / 100 / 10 = v / 1000 by omega]
    exact mp_num1 hK (by omega) hS (by omega) g
end SAYS
