/-! The law's calls: say, all of it. -/
def sN (S : BS) (k : Nat) : Nat := (slt S (ordN S) k).toInt.toNat
def soN (S : BS) (k : Nat) : Nat := (bSo S (ordN S k)).toNatClampNeg
def lat (S : BS) (k : Nat) : Bool := !decide (slt S (ordN S) k ≤ bLa S (ordN S k))
def pc (S : BS) (T : TX) (k : Nat) : TX :=
  if lat S k then push (num (push (num (push (if k = 0 then T else push T 44) (if soN S k % 2 = 1 then 84 else 76)) (soN S k / 2)) 64) (sN S k)) 33 else num (push (num (push (if k = 0 then T else push T 44) (if soN S k % 2 = 1 then 84 else 76)) (soN S k / 2)) 64) (sN S k)
def tx (S : BS) : Nat → TX
  | 0 => (fun _ => 0, 0)
  | k + 1 => pc S (tx S k) k
theorem push_len {T : TX} {c : Nat} : (push T c).2 = T.2 + 1 := rfl
theorem num1_len {T : TX} {v : Nat} (h : v < 10) : (num T v).2 = T.2 + 1 := by unfold num; rw [if_pos h]; rfl
theorem pc_len {S : BS} {T : TX} {k : Nat} (h : soN S k < 8) : (pc S T k).2 ≤ T.2 + 9 := by
  have key : (num (push (num (push (if k = 0 then T else push T 44) (if soN S k % 2 = 1 then 84 else 76)) (soN S k / 2)) 64) (sN S k)).2 ≤ T.2 + 8 := by
    have h1 := num_len (T := push (num (push (if k = 0 then T else push T 44) (if soN S k % 2 = 1 then 84 else 76)) (soN S k / 2)) 64) (v := sN S k)
    rw [push_len, num1_len (v := soN S k / 2) (by omega), push_len] at h1
    have : (if k = 0 then T else push T 44).2 ≤ T.2 + 1 := by
      split
      · omega
      · rw [push_len]; omega
    omega
  unfold pc
  split
  · rw [push_len]; omega
  · omega
theorem tx_len {S : BS} {n : Nat} (h : ∀ k, k < n → soN S k < 8) : ∀ k, k ≤ n → (tx S k).2 ≤ 9 * k
  | 0, _ => Nat.le_refl _
  | k + 1, hk => by
    have ih := tx_len h k (by omega)
    have := pc_len (T := tx S k) (h k (by omega))
    show (pc S (tx S k) k).2 ≤ _
    omega
section SAYS2
variable {I0 I : Nat → Nat → Int32} {J : Nat → Nat → Int64} {L : hL} {x n sn dn ac fi tp sd c v : Nat} {t : tl} {T : TX} {F : Int32 → hp → Prop} {G : hp → Prop} {X : Nat → hp → Prop} {d e z l : Nat} {ex : Bool}
--facts LK_ hK, LM_ hK.m, LB_ hK.b
theorem P_say (hK : LK L x) (h : SX I0 I x n sn dn ac fi tp sd) : PR I0 L x 55 259 9 9 d e [] I J z l ex := by
  have hn := h.n10
  have hol := BI_or h.i
  have h2 := h
  obtain ⟨⟨a1, a2⟩, ⟨b1, b2, b3, b4, b5⟩, ⟨c1, c2, c3, c4, c5, c6⟩, ⟨d1, d2, d3, d4⟩, e1⟩ := h2
  generalize hS : bd I (x + 1 + 2) = S at a1 a2 hol
  have hso : ∀ k, k < n → soN S k < 8 ∧ bSo S (ordN S k) = nI (soN S k) := fun k hk => by
    obtain ⟨w, hw, ew⟩ := a1.1.1.2.2.2.1 _ (hol k hk).2
    unfold soN
    rw [ew, nI_clamp (by omega)]
    exact ⟨hw, rfl⟩
  have hsl : ∀ k, k < n → sN S k < 10000 ∧ slt S (ordN S) k = nI (sN S k) := fun k hk => by
    have q := slt_up a1.1.1 a1.1.2.2.1 (k := k) (o := ordN S) (by omega) (fun i hi => (hol i (by omega)).2)
    obtain ⟨w, hw, ew⟩ := nI_nat (x := slt S (ordN S) k) (B := 5099) q.2.2 (by omega) (by decide)
    unfold sN
    rw [ew, nIi (by omega)]
    exact ⟨by omega, by congr 1⟩
  have htl := tx_len fun k hk => (hso k hk).1
  refine e55 (t55_0 ?_)
  simp (disch := omega) only [vpT, nI_leI, nI_ltI, nI_eq, nleT, nleF, nltT, nltF, neqT, neqF, nI_add, pk_mul, subN, divN, nI_clamp, mI1, wrH, wrM1, wrM2, wrowH, wrowM, bI0, bI1, kIi, kVi, kRi, kLi, kIx, kVx, Option.some.injEq, exists_eq_left', true_and, and_true, true_implies, false_implies, implies_true, not_true_eq_false, not_false_eq_true, true_or, or_true, false_or, or_false, forall_eq, iteT, iteF, LK_ hK, LM_ hK.m, LB_ hK.b]
  refine sp_layPlan hK.r h.i fun I2 hs2 hT2 => t55_18 ?_
  rw [hS] at hT2
  have eb2 : bd I2 (x + 1 + 2) = S := (hs2.bd fun a r1 r2 => by omega).trans hS
  simp (disch := omega) only [vpT, nI_leI, nI_ltI, nI_eq, nleT, nleF, nltT, nltF, neqT, neqF, nI_add, pk_mul, subN, divN, nI_clamp, mI1, wrH, wrM1, wrM2, wrowH, wrowM, bI0, bI1, kIi, kVi, kRi, kLi, kIx, kVx, Option.some.injEq, exists_eq_left', true_and, and_true, true_implies, false_implies, implies_true, not_true_eq_false, not_false_eq_true, true_or, or_true, false_or, or_false, forall_eq, iteT, iteF, LK_ hK, LM_ hK.m, LB_ hK.b]
  have fin1 : ∀ I3, same I2 I3 (fun a => a = x + 268 ∨ a = x + 269) → SAY I3 (x + 268) (x + 269) 1 (tx S n) → Wp (cal (d + 39)) kc_55 [] (kI (fun r h2 => MD I0 L x 259 e [] (fun r2 => r2 = r) 0 (z, l, ex) h2) (fun q h2 => (q = 9 ∧ NE9 9 ∧ MD I0 L x 259 e [] (fun _ => True) 1 (z + 1, l + 6, false) h2) ∨ (q = 9 ∧ NE9 9 ∧ MD I0 L x 259 e [] (fun _ => True) 2 (z + 1, l + 6, false) h2))) (21, [some (.ref x)], [], (L, I3, J, z, l, ex)) := by
    intro I3 hs3 hw3
    refine t55_21 ?_
    simp (disch := omega) only [vpT, nI_leI, nI_ltI, nI_eq, nleT, nleF, nltT, nltF, neqT, neqF, nI_add, pk_mul, subN, divN, nI_clamp, mI1, wrH, wrM1, wrM2, wrowH, wrowM, bI0, bI1, kIi, kVi, kRi, kLi, kIx, kVx, Option.some.injEq, exists_eq_left', true_and, and_true, true_implies, false_implies, implies_true, not_true_eq_false, not_false_eq_true, true_or, or_true, false_or, or_false, forall_eq, iteT, iteF, LK_ hK, LM_ hK.m, LB_ hK.b, hw3.1]
    have em : ∀ a, x + 271 ≤ a ∨ a < x → I3 a = I a := fun a ha => by rw [hs3 a (by omega), hs2 a (by omega)]
    refine ⟨I3, J, rfl, (by first | exact h.2.2.2.2 | exact fun a ha => (em a (Or.inr ha)).trans (h.2.2.2.2 a ha) | exact fun a ha => (em2 a (Or.inr ha)).trans (h.2.2.2.2 a ha) | exact fun a ha => (hs a (by omega)).trans (h.2.2.2.2 a ha) | exact fun a ha => (wrM1 (by omega)).trans ((em a (Or.inr ha)).trans (h.2.2.2.2 a ha)) | exact fun a ha => (e3 a (by omega)).trans ((em a (Or.inr ha)).trans (h.2.2.2.2 a ha)) | exact fun a ha => (cs a (by omega) (by omega)).trans (h.2.2.2.2 a ha) | exact fun a ha => (hs2 a (by omega)).trans (h.2.2.2.2 a ha) | exact fun a ha => (e3 a (by omega) (by omega)).trans (h.2.2.2.2 a ha) | exact fun a ha => (e3 a (by omega) (by omega) (by omega) (by omega)).trans (h.2.2.2.2 a ha) | exact fun a ha => (hs5 a (by omega)).trans ((hs4' a (by omega)).trans ((hs3' a (by omega)).trans ((hs2 a (by omega)).trans (h.2.2.2.2 a ha)))) | (intro a ha; (try rw [wrM1 (by omega)]); (try rw [hs6 a (by omega)]); (try rw [hs5 a (by omega)]); (try rw [e5 a (by omega)]); (try rw [hs4 a (by omega)]); (try rw [e4 a (by omega)]); (try rw [hs3 a (by omega)]); (try rw [e3 a (by omega)]); (try rw [wrM1 (by omega)]); (try rw [hs2 a (by omega)]); (try rw [e2 a (by omega)]); (try rw [em2 a (Or.inr ha)]); (try rw [cs a (by omega) (by omega)]); (try rw [hs1 a (by omega)]); (try rw [hs a (by omega)]); (try rw [em a (Or.inr ha)]); exact h.2.2.2.2 a ha)), fun J2 => e259 (t259_0 ?_)⟩
    simp (disch := omega) only [vpT, nI_leI, nI_ltI, nI_eq, nleT, nleF, nltT, nltF, neqT, neqF, nI_add, pk_mul, subN, divN, nI_clamp, mI1, wrH, wrM1, wrM2, wrowH, wrowM, bI0, bI1, kIi, kVi, kRi, kLi, kIx, kVx, Option.some.injEq, exists_eq_left', true_and, and_true, true_implies, false_implies, implies_true, not_true_eq_false, not_false_eq_true, true_or, or_true, false_or, or_false, forall_eq, iteT, iteF, LK_ hK, LM_ hK.m, LB_ hK.b]
    refine mp_laysPlan (S := S) (n := n) (sn := sn) (dn := dn) hK.m (by rw [wrM1 (by omega), em _ (by omega)]; exact a2) a1.1.1 hol fun I4 hs4 hL4 => t259_9 ?_
    have r4 : I4 (x + 271 + 1) = I (x + 271 + 1) := by rw [hs4 _ (by omega), wrM1 (by omega), em _ (by omega)]
    simp (disch := omega) only [vpT, nI_leI, nI_ltI, nI_eq, nleT, nleF, nltT, nltF, neqT, neqF, nI_add, pk_mul, subN, divN, nI_clamp, mI1, wrH, wrM1, wrM2, wrowH, wrowM, bI0, bI1, kIi, kVi, kRi, kLi, kIx, kVx, Option.some.injEq, exists_eq_left', true_and, and_true, true_implies, false_implies, implies_true, not_true_eq_false, not_false_eq_true, true_or, or_true, false_or, or_false, forall_eq, iteT, iteF, LK_ hK, LM_ hK.m, LB_ hK.b]
    refine lg (n := n) (fun i lv h => ∃ I5 l2, lv = [some (.ref (x + 271)), some (.int (nI i)), l2] ∧ h = (L, I5, J2, z, l, ex) ∧ WRT I4 I5 (x + 271) (x + 271 + 9) 29 (tx S i)) ?_ ?_ (Nat.zero_le _) _ _ ⟨_, _, rfl, rfl, fun a ha => wrM1 (by omega), fun j hj => wrM2 hj, wrH rfl rfl, fun i hi => absurd hi (Nat.not_lt_zero _)⟩
    · rintro i hi ih _ _ ⟨I5, l2, rfl, rfl, hw5⟩
      have hl := htl i (by omega)
      obtain ⟨s1, s2⟩ := hso i hi
      obtain ⟨u1, u2⟩ := hsl i hi
      have hoi := (hol i hi).2
      have rx : ∀ I6 T, WRT I4 I6 (x + 271) (x + 271 + 9) 29 T → I6 (x + 271 + 1) = I (x + 271 + 1) ∧ I6 (x + 271 + 6) = I4 (x + 271 + 6) ∧ I6 (x + 271 + 7) = I4 (x + 271 + 7) := fun I6 T hw => ⟨by rw [hw.1 _ (by omega), r4], hw.1 _ (by omega), hw.1 _ (by omega)⟩
      obtain ⟨w1, w6, w7⟩ := rx I5 _ hw5
      have e0 : I5 (x + 271 + 1) 0 = nI n := by rw [w1]; exact h.m0
      have e6 : I5 (x + 271 + 6) i = nI (ordN S i) := by rw [w6]; exact hL4.1 i hi
      have tail : ∀ I6, WRT I4 I6 (x + 271) (x + 271 + 9) 29 (if i = 0 then tx S i else push (tx S i) 44) → Wp (cal (e + 39)) kc_259 [] (kI (fun r2 h3 => r2 = nI (tx S n).2 ∧ FN I0 L x 0 J2 (z, l, ex) h3) (fun _ _ => False)) (43, [some (.ref (x + 271)), some (.int (nI i)), some (.int (nI (ordN S i)))], [], (L, I6, J2, z, l, ex)) := by
        intro I6 hw6
        have hl6 : (if i = 0 then tx S i else push (tx S i) 44).2 ≤ 9 * i + 1 := by
          split
          · omega
          · rw [push_len]; omega
        obtain ⟨x1, x6, x7⟩ := rx I6 _ hw6
        have es : ∀ I7 T, WRT I4 I7 (x + 271) (x + 271 + 9) 29 T → I7 (x + 271 + 1) (6 + 4 * ordN S i + 0) = nI (soN S i) := fun I7 T hw => by rw [(rx I7 T hw).1]; exact (a2.2.1 _ hoi).1.trans s2
        refine t259_43 ?_
        simp (disch := omega) only [vpT, nI_leI, nI_ltI, nI_eq, nleT, nleF, nltT, nltF, neqT, neqF, nI_add, pk_mul, subN, divN, nI_clamp, mI1, wrH, wrM1, wrM2, wrowH, wrowM, bI0, bI1, kIi, kVi, kRi, kLi, kIx, kVx, Option.some.injEq, exists_eq_left', true_and, and_true, true_implies, false_implies, implies_true, not_true_eq_false, not_false_eq_true, true_or, or_true, false_or, or_false, forall_eq, iteT, iteF, LK_ hK, LM_ hK.m, LB_ hK.b]
        refine mp_ofCraft (w := 0) hK.m (show ordN S i < 10 by omega) (by decide) (t259_50 ?_)
        rw [es I6 _ hw6]
        have mid : ∀ I7, WRT I4 I7 (x + 271) (x + 271 + 9) 29 (push (if i = 0 then tx S i else push (tx S i) 44) (if soN S i % 2 = 1 then 84 else 76)) → Wp (cal (e + 39)) kc_259 [] (kI (fun r2 h3 => r2 = nI (tx S n).2 ∧ FN I0 L x 0 J2 (z, l, ex) h3) (fun _ _ => False)) (65, [some (.ref (x + 271)), some (.int (nI i)), some (.int (nI (ordN S i)))], [], (L, I7, J2, z, l, ex)) := by
          intro I7 hw7
          refine t259_65 ?_
          simp (disch := omega) only [vpT, nI_leI, nI_ltI, nI_eq, nleT, nleF, nltT, nltF, neqT, neqF, nI_add, pk_mul, subN, divN, nI_clamp, mI1, wrH, wrM1, wrM2, wrowH, wrowM, bI0, bI1, kIi, kVi, kRi, kLi, kIx, kVx, Option.some.injEq, exists_eq_left', true_and, and_true, true_implies, false_implies, implies_true, not_true_eq_false, not_false_eq_true, true_or, or_true, false_or, or_false, forall_eq, iteT, iteF, LK_ hK, LM_ hK.m, LB_ hK.b]
          refine mp_ofCraft (w := 0) hK.m (show ordN S i < 10 by omega) (by decide) (t259_72 ?_)
          rw [es I7 _ hw7]
          simp (disch := omega) only [vpT, nI_leI, nI_ltI, nI_eq, nleT, nleF, nltT, nltF, neqT, neqF, nI_add, pk_mul, subN, divN, nI_clamp, mI1, wrH, wrM1, wrM2, wrowH, wrowM, bI0, bI1, kIi, kVi, kRi, kLi, kIx, kVx, Option.some.injEq, exists_eq_left', true_and, and_true, true_implies, false_implies, implies_true, not_true_eq_false, not_false_eq_true, true_or, or_true, false_or, or_false, forall_eq, iteT, iteF, LK_ hK, LM_ hK.m, LB_ hK.b]
          have b7 := push_len (T := if i = 0 then tx S i else push (tx S i) 44) (c := if soN S i % 2 = 1 then 84 else 76)
          refine mp_num (d := e + 34) hK (by omega) hw7.2.2 (by omega) fun I8 hw8 => t259_77 ?_
          have b8 := num1_len (T := push (if i = 0 then tx S i else push (tx S i) 44) (if soN S i % 2 = 1 then 84 else 76)) (v := soN S i / 2) (by omega)
          simp (disch := omega) only [vpT, nI_leI, nI_ltI, nI_eq, nleT, nleF, nltT, nltF, neqT, neqF, nI_add, pk_mul, subN, divN, nI_clamp, mI1, wrH, wrM1, wrM2, wrowH, wrowM, bI0, bI1, kIi, kVi, kRi, kLi, kIx, kVx, Option.some.injEq, exists_eq_left', true_and, and_true, true_implies, false_implies, implies_true, not_true_eq_false, not_false_eq_true, true_or, or_true, false_or, or_false, forall_eq, iteT, iteF, LK_ hK, LM_ hK.m, LB_ hK.b]
          refine mp_says hK (by decide) hw8.2.2 (by omega) fun I9 hw9 => t259_83 ?_
          have b9 := push_len (T := num (push (if i = 0 then tx S i else push (tx S i) 44) (if soN S i % 2 = 1 then 84 else 76)) (soN S i / 2)) (c := 64)
          have hw9' := (hw7.tr hw8).tr hw9
          have e9 : I9 (x + 271 + 7) i = nI (sN S i) := by rw [(rx I9 _ hw9').2.2, hL4.2 i hi]; exact u2
          simp (disch := omega) only [vpT, nI_leI, nI_ltI, nI_eq, nleT, nleF, nltT, nltF, neqT, neqF, nI_add, pk_mul, subN, divN, nI_clamp, mI1, wrH, wrM1, wrM2, wrowH, wrowM, bI0, bI1, kIi, kVi, kRi, kLi, kIx, kVx, Option.some.injEq, exists_eq_left', true_and, and_true, true_implies, false_implies, implies_true, not_true_eq_false, not_false_eq_true, true_or, or_true, false_or, or_false, forall_eq, iteT, iteF, LK_ hK, LM_ hK.m, LB_ hK.b, e9]
          refine mp_num (d := e + 34) hK u1 hw9.2.2 (by omega) fun I10 hw10 => t259_93 ?_
          have b10 := num_len (T := push (num (push (if i = 0 then tx S i else push (tx S i) 44) (if soN S i % 2 = 1 then 84 else 76)) (soN S i / 2)) 64) (v := sN S i)
          have hw10' := hw9'.tr hw10
          have e10 : I10 (x + 271 + 7) i = slt S (ordN S) i := by rw [(rx I10 _ hw10').2.2]; exact hL4.2 i hi
          simp (disch := omega) only [vpT, nI_leI, nI_ltI, nI_eq, nleT, nleF, nltT, nltF, neqT, neqF, nI_add, pk_mul, subN, divN, nI_clamp, mI1, wrH, wrM1, wrM2, wrowH, wrowM, bI0, bI1, kIi, kVi, kRi, kLi, kIx, kVx, Option.some.injEq, exists_eq_left', true_and, and_true, true_implies, false_implies, implies_true, not_true_eq_false, not_false_eq_true, true_or, or_true, false_or, or_false, forall_eq, iteT, iteF, LK_ hK, LM_ hK.m, LB_ hK.b, e10]
          refine mp_ofCraft (w := 2) hK.m (show ordN S i < 10 by omega) (by decide) (t259_105 ?_)
          have el : I10 (x + 271 + 1) (6 + 4 * ordN S i + 2) = bLa S (ordN S i) := by rw [(rx I10 _ hw10').1]; exact (a2.2.1 _ hoi).2.2.1
          rw [el]
          refine ⟨fun q => t259_114 ?_, fun q => ?_⟩
          · have lf : lat S i = false := by unfold lat; rw [decide_eq_true q]; rfl
            simp (disch := omega) only [vpT, nI_leI, nI_ltI, nI_eq, nleT, nleF, nltT, nltF, neqT, neqF, nI_add, pk_mul, subN, divN, nI_clamp, mI1, wrH, wrM1, wrM2, wrowH, wrowM, bI0, bI1, kIi, kVi, kRi, kLi, kIx, kVx, Option.some.injEq, exists_eq_left', true_and, and_true, true_implies, false_implies, implies_true, not_true_eq_false, not_false_eq_true, true_or, or_true, false_or, or_false, forall_eq, iteT, iteF, LK_ hK, LM_ hK.m, LB_ hK.b]
            refine ih _ _ ⟨I10, _, rfl, rfl, ?_⟩
            rw [show tx S (i + 1) = pc S (tx S i) i from rfl, pc, lf, if_neg (by decide)]
            exact hw10'
          · have lf : lat S i = true := by unfold lat; rw [decide_eq_false q]; rfl
            simp (disch := omega) only [vpT, nI_leI, nI_ltI, nI_eq, nleT, nleF, nltT, nltF, neqT, neqF, nI_add, pk_mul, subN, divN, nI_clamp, mI1, wrH, wrM1, wrM2, wrowH, wrowM, bI0, bI1, kIi, kVi, kRi, kLi, kIx, kVx, Option.some.injEq, exists_eq_left', true_and, and_true, true_implies, false_implies, implies_true, not_true_eq_false, not_false_eq_true, true_or, or_true, false_or, or_false, forall_eq, iteT, iteF, LK_ hK, LM_ hK.m, LB_ hK.b]
            refine mp_says hK (by decide) hw10.2.2 (by omega) fun I11 hw11 => t259_114 ?_
            simp (disch := omega) only [vpT, nI_leI, nI_ltI, nI_eq, nleT, nleF, nltT, nltF, neqT, neqF, nI_add, pk_mul, subN, divN, nI_clamp, mI1, wrH, wrM1, wrM2, wrowH, wrowM, bI0, bI1, kIi, kVi, kRi, kLi, kIx, kVx, Option.some.injEq, exists_eq_left', true_and, and_true, true_implies, false_implies, implies_true, not_true_eq_false, not_false_eq_true, true_or, or_true, false_or, or_false, forall_eq, iteT, iteF, LK_ hK, LM_ hK.m, LB_ hK.b]
            refine ih _ _ ⟨I11, _, rfl, rfl, ?_⟩
            rw [show tx S (i + 1) = pc S (tx S i) i from rfl, pc, lf, if_pos rfl]
            exact hw10'.tr hw11
        by_cases q : soN S i % 2 = 1
        · have hr : soN S i - soN S i / 2 * 2 = 1 := by omega
          simp (disch := omega) only [vpT, nI_leI, nI_ltI, nI_eq, nleT, nleF, nltT, nltF, neqT, neqF, nI_add, pk_mul, subN, divN, nI_clamp, mI1, wrH, wrM1, wrM2, wrowH, wrowM, bI0, bI1, kIi, kVi, kRi, kLi, kIx, kVx, Option.some.injEq, exists_eq_left', true_and, and_true, true_implies, false_implies, implies_true, not_true_eq_false, not_false_eq_true, true_or, or_true, false_or, or_false, forall_eq, iteT, iteF, LK_ hK, LM_ hK.m, LB_ hK.b, hr]
          refine mp_says hK (by decide) hw6.2.2 (by omega) fun I7 hw7 => mid I7 ?_
          rw [if_pos q]
          exact hw6.tr hw7
        · have hr : soN S i - soN S i / 2 * 2 = 0 := by omega
          simp (disch := omega) only [vpT, nI_leI, nI_ltI, nI_eq, nleT, nleF, nltT, nltF, neqT, neqF, nI_add, pk_mul, subN, divN, nI_clamp, mI1, wrH, wrM1, wrM2, wrowH, wrowM, bI0, bI1, kIi, kVi, kRi, kLi, kIx, kVx, Option.some.injEq, exists_eq_left', true_and, and_true, true_implies, false_implies, implies_true, not_true_eq_false, not_false_eq_true, true_or, or_true, false_or, or_false, forall_eq, iteT, iteF, LK_ hK, LM_ hK.m, LB_ hK.b, hr]
          refine mp_says hK (by decide) hw6.2.2 (by omega) fun I7 hw7 => mid I7 ?_
          rw [if_neg q]
          exact hw6.tr hw7
      refine t259_16 ?_
      by_cases i0 : i = 0
      · rw [if_pos i0] at tail
        simp (disch := omega) only [vpT, nI_leI, nI_ltI, nI_eq, nleT, nleF, nltT, nltF, neqT, neqF, nI_add, pk_mul, subN, divN, nI_clamp, mI1, wrH, wrM1, wrM2, wrowH, wrowM, bI0, bI1, kIi, kVi, kRi, kLi, kIx, kVx, Option.some.injEq, exists_eq_left', true_and, and_true, true_implies, false_implies, implies_true, not_true_eq_false, not_false_eq_true, true_or, or_true, false_or, or_false, forall_eq, iteT, iteF, LK_ hK, LM_ hK.m, LB_ hK.b, e0, e6]
        exact tail I5 hw5
      · rw [if_neg i0] at tail
        simp (disch := omega) only [vpT, nI_leI, nI_ltI, nI_eq, nleT, nleF, nltT, nltF, neqT, neqF, nI_add, pk_mul, subN, divN, nI_clamp, mI1, wrH, wrM1, wrM2, wrowH, wrowM, bI0, bI1, kIi, kVi, kRi, kLi, kIx, kVx, Option.some.injEq, exists_eq_left', true_and, and_true, true_implies, false_implies, implies_true, not_true_eq_false, not_false_eq_true, true_or, or_true, false_or, or_false, forall_eq, iteT, iteF, LK_ hK, LM_ hK.m, LB_ hK.b, e0, e6]
        refine mp_says hK (by decide) hw5.2.2 (by omega) fun I6 hw6 => tail I6 (hw5.tr hw6)
    · rintro _ _ ⟨I5, l2, rfl, rfl, hw5⟩
      have hl := htl n (Nat.le_refl _)
      have e0 : I5 (x + 271 + 1) 0 = nI n := by rw [hw5.1 _ (by omega), r4]; exact h.m0
      refine t259_16 ?_
      simp (disch := omega) only [vpT, nI_leI, nI_ltI, nI_eq, nleT, nleF, nltT, nltF, neqT, neqF, nI_add, pk_mul, subN, divN, nI_clamp, mI1, wrH, wrM1, wrM2, wrowH, wrowM, bI0, bI1, kIi, kVi, kRi, kLi, kIx, kVx, Option.some.injEq, exists_eq_left', true_and, and_true, true_implies, false_implies, implies_true, not_true_eq_false, not_false_eq_true, true_or, or_true, false_or, or_false, forall_eq, iteT, iteF, LK_ hK, LM_ hK.m, LB_ hK.b, e0, hw5.2.2.1]
      have cs : ∀ a, a < x + 271 → I5 a = I3 a := fun a ha => by rw [hw5.1 a (by omega), hs4 a (by omega), wrM1 (by omega)]
      have c2' : ∀ a, x + 271 ≤ a ∨ a < x → a ≠ x + 271 → a ≠ x + 271 + 9 → ¬ ms (x + 271) a → I5 a = I a := fun a q1 q2 q3 q4 => by rw [hw5.1 a (by omega), hs4 a q4, wrM1 q2, em a q1]
      have mf : ∀ j, j ≠ 29 → j ≠ 0 → I5 (x + 271) j = I (x + 271) j := fun j hj j0 => by rw [hw5.2.1 j hj, hs4 _ (by omega), wrM2 j0, em _ (by omega)]
      have m0 : I5 (x + 271) 0 = nI 0 := by rw [hw5.2.1 0 (by omega), hs4 _ (by omega)]; exact wrH rfl rfl
      have i3 : ∀ a, a < x + 268 → ¬ tb (x + 1) a → I3 a = I a := fun a q1 q2 => by rw [hs3 a (by omega), hs2 a q2]
      have eb : bd I5 (x + 1 + 2) = S := by rw [← hS]; exact bd_same fun a q1 q2 => by rw [cs a (by omega), i3 a (by omega) (by omega)]
      refine ⟨I5, J2, rfl, m0, rfl, n, sn, dn, ac, fi, tp, (tx S n).2, ⟨?_, ?_⟩, ⟨?_, ?_, b3, fun k hk => ?_, ?_⟩, ⟨?_, ?_, ?_, c4, c5, ?_⟩, ⟨?_, hw5.2.2.1, by omega, fun k hk => ?_⟩, fun a ha => ?_⟩
      · rw [eb]; exact a1
      · rw [eb, c2' _ (by omega) (by omega) (by omega) (by omega)]; exact a2
      · rw [cs _ (by omega), i3 _ (by omega) (by omega)]; exact b1
      · rw [mf 7 (by omega) (by omega)]; exact b2
      · rw [cs (x + 56) (by omega), i3 (x + 56) (by omega) (by omega), c2' (x + 271 + 5) (by omega) (by omega) (by omega) (by omega)]; exact b4 k hk
      · rw [cs x (by omega), i3 x (by omega) (by omega), mf 16 (by omega) (by omega)]; exact b5
      · rw [cs _ (by omega), i3 _ (by omega) (by omega)]; exact c1
      · rw [cs _ (by omega), i3 _ (by omega) (by omega)]; exact c2
      · rw [mf 5 (by omega) (by omega)]; exact c3
      · exact c6.fr (fun a q1 q2 => by rw [cs a (by omega), i3 a (by omega) (by omega)]) (c2' _ (by omega) (by omega) (by omega) (by omega))
      · rw [cs _ (by omega)]; exact hw3.1
      · rw [cs _ (by omega), hw3.2 k hk]; exact (hw5.2.2.2 k hk).symm
      · rw [cs a (by omega), i3 a (by omega) (by omega)]; exact e1 a ha
  refine e56 (t56_0 ?_)
  simp (disch := omega) only [vpT, nI_leI, nI_ltI, nI_eq, nleT, nleF, nltT, nltF, neqT, neqF, nI_add, pk_mul, subN, divN, nI_clamp, mI1, wrH, wrM1, wrM2, wrowH, wrowM, bI0, bI1, kIi, kVi, kRi, kLi, kIx, kVx, Option.some.injEq, exists_eq_left', true_and, and_true, true_implies, false_implies, implies_true, not_true_eq_false, not_false_eq_true, true_or, or_true, false_or, or_false, forall_eq, iteT, iteF, LK_ hK, LM_ hK.m, LB_ hK.b]
  refine lg (n := n) (fun i lv h => ∃ I5 l4, lv = [some (.ref (x + 268)), some (.ref (x + 1 + 2)), some (.ref (x + 1 + 23)), some (.int (nI i)), l4] ∧ h = (L, I5, J, z, l, ex) ∧ WRT I2 I5 (x + 268) (x + 269) 1 (tx S i)) ?_ ?_ (Nat.zero_le _) _ _ ⟨_, _, rfl, rfl, fun a ha => wrM1 (by omega), fun j hj => wrM2 hj, wrH rfl rfl, fun i hi => absurd hi (Nat.not_lt_zero _)⟩
  · rintro i hi ih _ _ ⟨I5, l4, rfl, rfl, hw5⟩
    have hl := htl i (by omega)
    obtain ⟨s1, s2⟩ := hso i hi
    obtain ⟨u1, u2⟩ := hsl i hi
    have hoi := (hol i hi).2
    have rx : ∀ I6 T, WRT I2 I6 (x + 268) (x + 269) 1 T → bd I6 (x + 1 + 2) = S ∧ Tab I6 (x + 1 + 23) S (ordN S) n := fun I6 T hw => ⟨(hw.1.bd fun a r1 r2 => by omega).trans eb2, hT2.same hw.1 fun a r1 r2 => by omega⟩
    have rw1 : ∀ I6 T, WRT I2 I6 (x + 268) (x + 269) 1 T → I6 (x + 1 + 2) 0 = nI n ∧ I6 (x + 1 + 2 + 6) i = nI (ordN S i) ∧ I6 (x + 1 + 2 + 1) (ordN S i) = nI (soN S i) ∧ I6 (x + 1 + 23 + 2) i = nI (sN S i) := fun I6 T hw => by
      have q := (rx I6 T hw).1
      refine ⟨?_, ?_, ?_, ?_⟩
      · have : bF (bd I6 (x + 1 + 2)) 0 = nI n := by rw [q]; exact a1.1.1.1.1
        exact this
      · have : bOr (bd I6 (x + 1 + 2)) i = nI (ordN S i) := by rw [q]; exact (hol i hi).1
        exact this
      · have : bSo (bd I6 (x + 1 + 2)) (ordN S i) = nI (soN S i) := by rw [q]; exact s2
        exact this
      · rw [← u2]; exact ((rx I6 T hw).2.1 i hi).2
    obtain ⟨w0, w6, w1, w7⟩ := rw1 I5 _ hw5
    have tail : ∀ I6, WRT I2 I6 (x + 268) (x + 269) 1 (if i = 0 then tx S i else push (tx S i) 44) → Wp (cal (d + 38)) kc_56 [] (kV (fun h2 => Wp (cal (d + 39)) kc_55 [] (kI (fun r h2 => MD I0 L x 259 e [] (fun r2 => r2 = r) 0 (z, l, ex) h2) (fun q h2 => (q = 9 ∧ NE9 9 ∧ MD I0 L x 259 e [] (fun _ => True) 1 (z + 1, l + 6, false) h2) ∨ (q = 9 ∧ NE9 9 ∧ MD I0 L x 259 e [] (fun _ => True) 2 (z + 1, l + 6, false) h2))) (21, [some (.ref x)], [], h2)) (fun e_1 h2 => kI (fun r h2 => MD I0 L x 259 e [] (fun r2 => r2 = r) 0 (z, l, ex) h2) (fun q h2 => (q = 9 ∧ NE9 9 ∧ MD I0 L x 259 e [] (fun _ => True) 1 (z + 1, l + 6, false) h2) ∨ (q = 9 ∧ NE9 9 ∧ MD I0 L x 259 e [] (fun _ => True) 2 (z + 1, l + 6, false) h2)) (.inr e_1) h2)) (33, [some (.ref (x + 268)), some (.ref (x + 1 + 2)), some (.ref (x + 1 + 23)), some (.int (nI i)), some (.int (nI (ordN S i)))], [], (L, I6, J, z, l, ex)) := by
      intro I6 hw6
      have hl6 : (if i = 0 then tx S i else push (tx S i) 44).2 ≤ 9 * i + 1 := by
        split
        · omega
        · rw [push_len]; omega
      refine t56_33 ?_
      simp (disch := omega) only [vpT, nI_leI, nI_ltI, nI_eq, nleT, nleF, nltT, nltF, neqT, neqF, nI_add, pk_mul, subN, divN, nI_clamp, mI1, wrH, wrM1, wrM2, wrowH, wrowM, bI0, bI1, kIi, kVi, kRi, kLi, kIx, kVx, Option.some.injEq, exists_eq_left', true_and, and_true, true_implies, false_implies, implies_true, not_true_eq_false, not_false_eq_true, true_or, or_true, false_or, or_false, forall_eq, iteT, iteF, LK_ hK, LM_ hK.m, LB_ hK.b]
      refine sp_leaves (n := n) (sn := sn) (dn := dn) hK.b (by rw [(rx I6 _ hw6).1]; exact a1.1.1) hoi (t56_40 ?_)
      rw [(rx I6 _ hw6).1]
      have mid : ∀ I7, WRT I2 I7 (x + 268) (x + 269) 1 (push (if i = 0 then tx S i else push (tx S i) 44) (if soN S i % 2 = 1 then 84 else 76)) → _ := fun I7 hw7 => by
        refine t56_53 (d := d + 38) (h := (L, I7, J, z, l, ex)) (a0 := x + 268) (a1 := x + 1 + 2) (a2 := x + 1 + 23) (x3 := nI i) (x4 := nI (ordN S i)) (Q := kV (fun h2 => Wp (cal (d + 39)) kc_55 [] (kI (fun r h2 => MD I0 L x 259 e [] (fun r2 => r2 = r) 0 (z, l, ex) h2) (fun q h2 => (q = 9 ∧ NE9 9 ∧ MD I0 L x 259 e [] (fun _ => True) 1 (z + 1, l + 6, false) h2) ∨ (q = 9 ∧ NE9 9 ∧ MD I0 L x 259 e [] (fun _ => True) 2 (z + 1, l + 6, false) h2))) (21, [some (.ref x)], [], h2)) (fun e_1 h2 => kI (fun r h2 => MD I0 L x 259 e [] (fun r2 => r2 = r) 0 (z, l, ex) h2) (fun q h2 => (q = 9 ∧ NE9 9 ∧ MD I0 L x 259 e [] (fun _ => True) 1 (z + 1, l + 6, false) h2) ∨ (q = 9 ∧ NE9 9 ∧ MD I0 L x 259 e [] (fun _ => True) 2 (z + 1, l + 6, false) h2)) (.inr e_1) h2)) ?_
        simp (disch := omega) only [vpT, nI_leI, nI_ltI, nI_eq, nleT, nleF, nltT, nltF, neqT, neqF, nI_add, pk_mul, subN, divN, nI_clamp, mI1, wrH, wrM1, wrM2, wrowH, wrowM, bI0, bI1, kIi, kVi, kRi, kLi, kIx, kVx, Option.some.injEq, exists_eq_left', true_and, and_true, true_implies, false_implies, implies_true, not_true_eq_false, not_false_eq_true, true_or, or_true, false_or, or_false, forall_eq, iteT, iteF, LK_ hK, LM_ hK.m, LB_ hK.b, (rw1 I7 _ hw7).2.2.1]
        have b7 := push_len (T := if i = 0 then tx S i else push (tx S i) 44) (c := if soN S i % 2 = 1 then 84 else 76)
        refine sp_num hK (by omega) hw7.2.2 (by omega) fun I8 hw8 => t56_66 ?_
        have b8 := num1_len (T := push (if i = 0 then tx S i else push (tx S i) 44) (if soN S i % 2 = 1 then 84 else 76)) (v := soN S i / 2) (by omega)
        simp (disch := omega) only [vpT, nI_leI, nI_ltI, nI_eq, nleT, nleF, nltT, nltF, neqT, neqF, nI_add, pk_mul, subN, divN, nI_clamp, mI1, wrH, wrM1, wrM2, wrowH, wrowM, bI0, bI1, kIi, kVi, kRi, kLi, kIx, kVx, Option.some.injEq, exists_eq_left', true_and, and_true, true_implies, false_implies, implies_true, not_true_eq_false, not_false_eq_true, true_or, or_true, false_or, or_false, forall_eq, iteT, iteF, LK_ hK, LM_ hK.m, LB_ hK.b]
        refine sp_add hK (by decide) hw8.2.2 (by omega) fun I9 hw9 => t56_72 ?_
        have b9 := push_len (T := num (push (if i = 0 then tx S i else push (tx S i) 44) (if soN S i % 2 = 1 then 84 else 76)) (soN S i / 2)) (c := 64)
        have hw9' := (hw7.tr hw8).tr hw9
        simp (disch := omega) only [vpT, nI_leI, nI_ltI, nI_eq, nleT, nleF, nltT, nltF, neqT, neqF, nI_add, pk_mul, subN, divN, nI_clamp, mI1, wrH, wrM1, wrM2, wrowH, wrowM, bI0, bI1, kIi, kVi, kRi, kLi, kIx, kVx, Option.some.injEq, exists_eq_left', true_and, and_true, true_implies, false_implies, implies_true, not_true_eq_false, not_false_eq_true, true_or, or_true, false_or, or_false, forall_eq, iteT, iteF, LK_ hK, LM_ hK.m, LB_ hK.b, (rw1 I9 _ hw9').2.2.2]
        refine sp_num hK u1 hw9.2.2 (by omega) fun I10 hw10 => t56_82 ?_
        have b10 := num_len (T := push (num (push (if i = 0 then tx S i else push (tx S i) 44) (if soN S i % 2 = 1 then 84 else 76)) (soN S i / 2)) 64) (v := sN S i)
        have hw10' := hw9'.tr hw10
        obtain ⟨y1, y2⟩ := rx I10 _ hw10'
        simp (disch := omega) only [vpT, nI_leI, nI_ltI, nI_eq, nleT, nleF, nltT, nltF, neqT, neqF, nI_add, pk_mul, subN, divN, nI_clamp, mI1, wrH, wrM1, wrM2, wrowH, wrowM, bI0, bI1, kIi, kVi, kRi, kLi, kIx, kVx, Option.some.injEq, exists_eq_left', true_and, and_true, true_implies, false_implies, implies_true, not_true_eq_false, not_false_eq_true, true_or, or_true, false_or, or_false, forall_eq, iteT, iteF, LK_ hK, LM_ hK.m, LB_ hK.b]
        refine sp_isLate (n := n) (sn := sn) (dn := dn) (o := ordN S) hK.r.t hK.b (by rw [y1]; exact a1.1.1) (fun j hj => (hol j hj).2) (by rw [y1]; exact y2) hi (t56_87 ?_)
        rw [y1]
        cases lf : lat S i with
        | false =>
          rw [show (!decide (slt S (ordN S) i ≤ bLa S (ordN S i))) = false from lf, bI_f]
          simp (disch := omega) only [vpT, nI_leI, nI_ltI, nI_eq, nleT, nleF, nltT, nltF, neqT, neqF, nI_add, pk_mul, subN, divN, nI_clamp, mI1, wrH, wrM1, wrM2, wrowH, wrowM, bI0, bI1, kIi, kVi, kRi, kLi, kIx, kVx, Option.some.injEq, exists_eq_left', true_and, and_true, true_implies, false_implies, implies_true, not_true_eq_false, not_false_eq_true, true_or, or_true, false_or, or_false, forall_eq, iteT, iteF, LK_ hK, LM_ hK.m, LB_ hK.b]
          refine t56_96 ?_
          simp (disch := omega) only [vpT, nI_leI, nI_ltI, nI_eq, nleT, nleF, nltT, nltF, neqT, neqF, nI_add, pk_mul, subN, divN, nI_clamp, mI1, wrH, wrM1, wrM2, wrowH, wrowM, bI0, bI1, kIi, kVi, kRi, kLi, kIx, kVx, Option.some.injEq, exists_eq_left', true_and, and_true, true_implies, false_implies, implies_true, not_true_eq_false, not_false_eq_true, true_or, or_true, false_or, or_false, forall_eq, iteT, iteF, LK_ hK, LM_ hK.m, LB_ hK.b]
          refine ih _ _ ⟨I10, _, rfl, rfl, ?_⟩
          rw [show tx S (i + 1) = pc S (tx S i) i from rfl, pc, lf, if_neg (by decide)]
          exact hw10'
        | true =>
          rw [show (!decide (slt S (ordN S) i ≤ bLa S (ordN S i))) = true from lf, bI_t]
          simp (disch := omega) only [vpT, nI_leI, nI_ltI, nI_eq, nleT, nleF, nltT, nltF, neqT, neqF, nI_add, pk_mul, subN, divN, nI_clamp, mI1, wrH, wrM1, wrM2, wrowH, wrowM, bI0, bI1, kIi, kVi, kRi, kLi, kIx, kVx, Option.some.injEq, exists_eq_left', true_and, and_true, true_implies, false_implies, implies_true, not_true_eq_false, not_false_eq_true, true_or, or_true, false_or, or_false, forall_eq, iteT, iteF, LK_ hK, LM_ hK.m, LB_ hK.b]
          refine sp_add hK (by decide) hw10.2.2 (by omega) fun I11 hw11 => t56_96 ?_
          simp (disch := omega) only [vpT, nI_leI, nI_ltI, nI_eq, nleT, nleF, nltT, nltF, neqT, neqF, nI_add, pk_mul, subN, divN, nI_clamp, mI1, wrH, wrM1, wrM2, wrowH, wrowM, bI0, bI1, kIi, kVi, kRi, kLi, kIx, kVx, Option.some.injEq, exists_eq_left', true_and, and_true, true_implies, false_implies, implies_true, not_true_eq_false, not_false_eq_true, true_or, or_true, false_or, or_false, forall_eq, iteT, iteF, LK_ hK, LM_ hK.m, LB_ hK.b]
          refine ih _ _ ⟨I11, _, rfl, rfl, ?_⟩
          rw [show tx S (i + 1) = pc S (tx S i) i from rfl, pc, lf, if_pos rfl]
          exact hw10'.tr hw11
      by_cases q : soN S i % 2 = 1
      · have el : lvs1 S (ordN S i) = true := decide_eq_true q
        rw [el, bI_t]
        simp (disch := omega) only [vpT, nI_leI, nI_ltI, nI_eq, nleT, nleF, nltT, nltF, neqT, neqF, nI_add, pk_mul, subN, divN, nI_clamp, mI1, wrH, wrM1, wrM2, wrowH, wrowM, bI0, bI1, kIi, kVi, kRi, kLi, kIx, kVx, Option.some.injEq, exists_eq_left', true_and, and_true, true_implies, false_implies, implies_true, not_true_eq_false, not_false_eq_true, true_or, or_true, false_or, or_false, forall_eq, iteT, iteF, LK_ hK, LM_ hK.m, LB_ hK.b]
        refine sp_add hK (by decide) hw6.2.2 (by omega) fun I7 hw7 => mid I7 ?_
        rw [if_pos q]
        exact hw6.tr hw7
      · have el : lvs1 S (ordN S i) = false := decide_eq_false q
        rw [el, bI_f]
        simp (disch := omega) only [vpT, nI_leI, nI_ltI, nI_eq, nleT, nleF, nltT, nltF, neqT, neqF, nI_add, pk_mul, subN, divN, nI_clamp, mI1, wrH, wrM1, wrM2, wrowH, wrowM, bI0, bI1, kIi, kVi, kRi, kLi, kIx, kVx, Option.some.injEq, exists_eq_left', true_and, and_true, true_implies, false_implies, implies_true, not_true_eq_false, not_false_eq_true, true_or, or_true, false_or, or_false, forall_eq, iteT, iteF, LK_ hK, LM_ hK.m, LB_ hK.b]
        refine sp_add hK (by decide) hw6.2.2 (by omega) fun I7 hw7 => mid I7 ?_
        rw [if_neg q]
        exact hw6.tr hw7
    refine t56_7 ?_
    by_cases i0 : i = 0
    · rw [if_pos i0] at tail
      simp (disch := omega) only [vpT, nI_leI, nI_ltI, nI_eq, nleT, nleF, nltT, nltF, neqT, neqF, nI_add, pk_mul, subN, divN, nI_clamp, mI1, wrH, wrM1, wrM2, wrowH, wrowM, bI0, bI1, kIi, kVi, kRi, kLi, kIx, kVx, Option.some.injEq, exists_eq_left', true_and, and_true, true_implies, false_implies, implies_true, not_true_eq_false, not_false_eq_true, true_or, or_true, false_or, or_false, forall_eq, iteT, iteF, LK_ hK, LM_ hK.m, LB_ hK.b, w0, w6]
      exact tail I5 hw5
    · rw [if_neg i0] at tail
      simp (disch := omega) only [vpT, nI_leI, nI_ltI, nI_eq, nleT, nleF, nltT, nltF, neqT, neqF, nI_add, pk_mul, subN, divN, nI_clamp, mI1, wrH, wrM1, wrM2, wrowH, wrowM, bI0, bI1, kIi, kVi, kRi, kLi, kIx, kVx, Option.some.injEq, exists_eq_left', true_and, and_true, true_implies, false_implies, implies_true, not_true_eq_false, not_false_eq_true, true_or, or_true, false_or, or_false, forall_eq, iteT, iteF, LK_ hK, LM_ hK.m, LB_ hK.b, w0, w6]
      refine sp_add hK (by decide) hw5.2.2 (by omega) fun I6 hw6 => tail I6 (hw5.tr hw6)
  · rintro _ _ ⟨I5, l4, rfl, rfl, hw5⟩
    have w0 : I5 (x + 1 + 2) 0 = nI n := by
      have q : bd I5 (x + 1 + 2) = S := (hw5.1.bd fun a r1 r2 => by omega).trans eb2
      have : bF (bd I5 (x + 1 + 2)) 0 = nI n := by rw [q]; exact a1.1.1.1.1
      exact this
    refine t56_7 ?_
    simp (disch := omega) only [vpT, nI_leI, nI_ltI, nI_eq, nleT, nleF, nltT, nltF, neqT, neqF, nI_add, pk_mul, subN, divN, nI_clamp, mI1, wrH, wrM1, wrM2, wrowH, wrowM, bI0, bI1, kIi, kVi, kRi, kLi, kIx, kVx, Option.some.injEq, exists_eq_left', true_and, and_true, true_implies, false_implies, implies_true, not_true_eq_false, not_false_eq_true, true_or, or_true, false_or, or_false, forall_eq, iteT, iteF, LK_ hK, LM_ hK.m, LB_ hK.b, w0]
    exact fin1 I5 hw5.1 hw5.2.2
end SAYS2
