/-! The law's calls: the best plans, what a shift is worth, losses, days. -/
/-- the same board with another shift -/
def sS (S : BS) (k : Nat) : BS := (fun j => if j = 11 then nI k else bF S j, S.2)
section SHIFT
variable {S : BS} {k : Nat}
theorem pass_sS : ∀ n t, pass (sS S k) n t = pass S n t
  | 0, _ => rfl
  | n + 1, t => by unfold pass; rw [pass_sS n t]; rfl
theorem rounds_sS {n : Nat} : ∀ r t, rounds (sS S k) n r t = rounds S n r t
  | 0, _ => rfl
  | r + 1, t => by unfold rounds; rw [rounds_sS r t, pass_sS]
theorem opn_sS {t : Int32} : opn (sS S k) t = opn S t := rounds_sS _ _
theorem dn0_sS {s : Nat} : ∀ i, dn0 (sS S k) s i = dn0 S s i
  | 0 => rfl
  | i + 1 => by unfold dn0; rw [dn0_sS i]; rfl
theorem lst_sS {o : Nat → Nat} : ∀ i s, lst (sS S k) o i s = lst S o i s
  | 0, s => dn0_sS _
  | i + 1, s => by unfold lst; rw [opn_sS, lst_sS i, lst_sS i]; rfl
theorem slt_sS {o : Nat → Nat} {j : Nat} : slt (sS S k) o j = slt S o j := by unfold slt; rw [opn_sS, lst_sS]; rfl
theorem sltf_sS {o : Nat → Nat} : slt (sS S k) o = slt S o := funext fun _ => slt_sS
theorem cst_sS {o : Nat → Nat} {y : Int32} : ∀ i, cst (sS S k) o y i = cst S o y i
  | 0 => rfl
  | i + 1 => by unfold cst; rw [cst_sS i, slt_sS]; rfl
theorem frz_sS {n : Nat} : frz (sS S k) n = frz S n := by
  unfold frz
  rw [show ordN (sS S k) = ordN S from rfl, sltf_sS]
  rfl
theorem Leaf_sS {n f sh : Nat} {hd : Bool} {o : Nat → Nat} : Leaf (sS S k) n f sh hd o = Leaf S n f sh hd o := by
  unfold Leaf
  rw [sltf_sS]
  rfl
theorem Fnd_sS {n f sh : Nat} {y v : Int32} {fr : rw1} (h : Fnd (sS S k) n f sh y v fr) : Fnd S n f sh y v fr := by
  obtain ⟨f0, L1, hB, hv⟩ := h
  refine ⟨f0, L1, ?_, hv⟩
  rw [show Leaf (sS S k) n f sh true = Leaf S n f sh true from funext fun _ => Leaf_sS, show (fun o => cst (sS S k) o y n) = (fun o => cst S o y n) from funext fun _ => cst_sS _] at hB
  exact hB
theorem VB.sS {n sn dn T : Nat} (h : VB S n sn dn T) (hk : k ≤ 3) : VB (sS S k) n sn dn T := by
  obtain ⟨b, p, v, u, -⟩ := h
  exact ⟨b, p, v, u, k, hk, rfl⟩
end SHIFT
theorem Snd_ex {S : BS} {n c p : Nat} {x : Int32} : ∃ S', Snd S S' n c p x :=
  ⟨(S.1, S.2.1, fun k => if k = c then mn (slt S (ordN S) p + x) (nI 999) else bRe S k, fun k => if k = c then mn (mx (bLa S c + x) (mn (slt S (ordN S) p + x) (nI 999))) (nI 1999) else bLa S k, S.2.2.2.2.1, S.2.2.2.2.2.1, fun k => nI (mvd (ordN S) p (n - 1) k), S.2.2.2.2.2.2.2), rfl, fun k hk => ⟨if_neg hk, if_neg hk⟩, ⟨if_pos rfl, if_pos rfl⟩, fun k _ => rfl, rfl, rfl, rfl, rfl, rfl, rfl, rfl, rfl, rfl⟩
theorem fs_told {S : BS} {n sn dn T f sh : Nat} {y v M1 : Int32} {fr g0 g1 : rw1} (hI : BI S n sn dn) (hV : BV S n sn dn T) (h : Fnd S n f sh y v fr) (hB : Bst (Leaf S n f sh true) (fun o => cst S o y n) n (nI 1000000000) g0 M1 g1) : (if M1 = nI 1000000000 then -1 else M1) = v := by
  rcases find_same hI hV h hB with ⟨z1, z2, z3⟩ | ⟨z1, z2, z3, o', z4, z5, z6⟩
  · rw [if_pos z2, z1]
  · rw [if_neg z2, z1]
section CALLS8
variable {I0 I I2 I3 I5 : Nat → Nat → Int32} {J J2 : Nat → Nat → Int64} {L : hL} {x n sn dn ac fi tp sd c : Nat} {t : tl} {F : Int32 → hp → Prop} {G : hp → Prop} {N : Nat → hp → Prop} {X : Nat → hp → Prop} {d e z l : Nat} {ex : Bool}
theorem SX.fr2 (h : SX I0 I x n sn dn ac fi tp sd) (hs : same I I2 (fun a => scr x a ∨ a = x + 271 + 1)) (h1 : ∀ j, j < 189 → I2 (x + 271 + 1) j = I (x + 271 + 1) j) (hf : ∀ j, j = 5 ∨ j = 7 ∨ j = 16 ∨ j = 29 → I2 (x + 271) j = I (x + 271) j) : SX I0 I2 x n sn dn ac fi tp sd := by
  obtain ⟨⟨a1, a2⟩, ⟨b1, b2, b3, b4, b5⟩, ⟨c1, c2, c3, c4, c5, c6⟩, ⟨d1, d2, d3, d4⟩, e1⟩ := h
  have eb : bd I2 (x + 1 + 2) = bd I (x + 1 + 2) := bd_same fun a q1 q2 => hs a (by omega)
  refine ⟨⟨by rw [eb]; exact a1, by rw [eb]; exact a2.congr a1.1.1.1.2 a1.1.1.2.1.2 a1.1.1.2.2.1.2 h1⟩, ⟨by rw [hs _ (by omega)]; exact b1, by rw [hf 7 (by omega)]; exact b2, b3, fun k hk => by rw [hs _ (by omega), hs _ (by omega)]; exact b4 k hk, by rw [hs x (by omega), hf 16 (by omega)]; exact b5⟩, ⟨by rw [hs _ (by omega)]; exact c1, by rw [hs _ (by omega)]; exact c2, by rw [hf 5 (by omega)]; exact c3, c4, c5, c6.fr (fun a _ _ => hs a (by omega)) (hs _ (by omega))⟩, ⟨by rw [hs _ (by omega)]; exact d1, by rw [hf 29 (by omega)]; exact d2, d3, fun k hk => by rw [hs _ (by omega), hs _ (by omega)]; exact d4 k hk⟩, fun a ha => (hs a (by omega)).trans (e1 a ha)⟩
theorem f3 (h : SX I0 I x n sn dn ac fi tp sd) (hs : same I I2 (fun a => scr x a ∨ a = x + 271 + 1)) (h1 : ∀ j, j < 189 → I2 (x + 271 + 1) j = I (x + 271 + 1) j) (hf : ∀ j, j = 5 ∨ j = 7 ∨ j = 16 ∨ j = 29 → I2 (x + 271) j = I (x + 271) j) (h0 : I2 (x + 271) 0 = nI c) : FN I0 L x c J t (L, I2, J, t) := ⟨I2, J, rfl, h0, rfl, n, sn, dn, ac, fi, tp, sd, h.fr2 hs h1 hf⟩
--facts LK_ hK, LM_ hK.m, LB_ hK.b
theorem sp_paper (hK : LK L x) (k : ∀ I2, same I I2 (fun a => x + 28 + 2 ≤ a ∧ a ≤ x + 28 + 2 + 12) → AG (bd I2 (x + 28 + 2)) (bd I (x + 1 + 2)) → N (x + 28) (L, I2, J, t)) : cal (d + 3) 93 [.ref x] (L, I, J, t) (kR N X) := by
  refine e93 (t93_0 ?_)
  simp (disch := omega) only [vpT, nI_leI, nI_ltI, nI_eq, nleT, nleF, nltT, nltF, neqT, neqF, nI_add, pk_mul, subN, divN, nI_clamp, mI1, wrH, wrM1, wrM2, wrowH, wrowM, bI0, bI1, kIi, kVi, kRi, kLi, kIx, kVx, Option.some.injEq, exists_eq_left', true_and, and_true, true_implies, false_implies, implies_true, not_true_eq_false, not_false_eq_true, true_or, or_true, false_or, or_false, forall_eq, iteT, iteF, LK_ hK, LM_ hK.m, LB_ hK.b]
  refine sp_copyFrom hK.p.b hK.b (by omega) fun I2 hs2 hA => t93_17 ?_
  simp (disch := omega) only [vpT, nI_leI, nI_ltI, nI_eq, nleT, nleF, nltT, nltF, neqT, neqF, nI_add, pk_mul, subN, divN, nI_clamp, mI1, wrH, wrM1, wrM2, wrowH, wrowM, bI0, bI1, kIi, kVi, kRi, kLi, kIx, kVx, Option.some.injEq, exists_eq_left', true_and, and_true, true_implies, false_implies, implies_true, not_true_eq_false, not_false_eq_true, true_or, or_true, false_or, or_false, forall_eq, iteT, iteF, LK_ hK, LM_ hK.m, LB_ hK.b]
  exact k I2 hs2 hA
theorem P_ways {hd : Bool} (hK : LK L x) (h : SX I0 I x n sn dn ac fi tp sd) : PR I0 L x 15 235 9 9 d e [.int (bI hd)] I J z l ex := by
  have hol := BI_or h.i
  obtain ⟨sh, hs3, hsh⟩ := h.v.2.2.2.2
  have m2 : I (x + 271 + 1) 2 = nI sh := h.r.1.2.2.1.trans hsh
  refine e15 (t15_0 ?_)
  simp (disch := omega) only [vpT, nI_leI, nI_ltI, nI_eq, nleT, nleF, nltT, nltF, neqT, neqF, nI_add, pk_mul, subN, divN, nI_clamp, mI1, wrH, wrM1, wrM2, wrowH, wrowM, bI0, bI1, kIi, kVi, kRi, kLi, kIx, kVx, Option.some.injEq, exists_eq_left', true_and, and_true, true_implies, false_implies, implies_true, not_true_eq_false, not_false_eq_true, true_or, or_true, false_or, or_false, forall_eq, iteT, iteF, LK_ hK, LM_ hK.m, LB_ hK.b]
  refine sp_frozen hK.r h.i fun I2 hs2 hT2 => t15_14 ?_
  have eb2 : bd I2 (x + 1 + 2) = bd I (x + 1 + 2) := hs2.bd fun a r1 r2 => by omega
  simp (disch := omega) only [vpT, nI_leI, nI_ltI, nI_eq, nleT, nleF, nltT, nltF, neqT, neqF, nI_add, pk_mul, subN, divN, nI_clamp, mI1, wrH, wrM1, wrM2, wrowH, wrowM, bI0, bI1, kIi, kVi, kRi, kLi, kIx, kVx, Option.some.injEq, exists_eq_left', true_and, and_true, true_implies, false_implies, implies_true, not_true_eq_false, not_false_eq_true, true_or, or_true, false_or, or_false, forall_eq, iteT, iteF, LK_ hK, LM_ hK.m, LB_ hK.b]
  refine sp_countOrders (n := n) (sn := sn) (dn := dn) (sh := sh) hK.r (by rw [eb2]; exact h.i) (by rw [eb2]; exact h.v.2.2.2.1) (by rw [eb2]; exact h.v.2.1) (by rw [eb2]; exact hsh) hs3 frz_le fun I3 hs3' => t15_18 ?_
  rw [eb2]
  simp (disch := omega) only [vpT, nI_leI, nI_ltI, nI_eq, nleT, nleF, nltT, nltF, neqT, neqF, nI_add, pk_mul, subN, divN, nI_clamp, mI1, wrH, wrM1, wrM2, wrowH, wrowM, bI0, bI1, kIi, kVi, kRi, kLi, kIx, kVx, Option.some.injEq, exists_eq_left', true_and, and_true, true_implies, false_implies, implies_true, not_true_eq_false, not_false_eq_true, true_or, or_true, false_or, or_false, forall_eq, iteT, iteF, LK_ hK, LM_ hK.m, LB_ hK.b]
  have em : ∀ a, x + 271 ≤ a ∨ a < x → I3 a = I a := fun a ha => by rw [hs3' a (by omega), hs2 a (by omega)]
  refine ⟨I3, J, rfl, (by first | exact h.2.2.2.2 | exact fun a ha => (em a (Or.inr ha)).trans (h.2.2.2.2 a ha) | exact fun a ha => (em2 a (Or.inr ha)).trans (h.2.2.2.2 a ha) | exact fun a ha => (hs a (by omega)).trans (h.2.2.2.2 a ha) | exact fun a ha => (wrM1 (by omega)).trans ((em a (Or.inr ha)).trans (h.2.2.2.2 a ha)) | exact fun a ha => (e3 a (by omega)).trans ((em a (Or.inr ha)).trans (h.2.2.2.2 a ha)) | exact fun a ha => (cs a (by omega) (by omega)).trans (h.2.2.2.2 a ha) | exact fun a ha => (hs2 a (by omega)).trans (h.2.2.2.2 a ha) | exact fun a ha => (e3 a (by omega) (by omega)).trans (h.2.2.2.2 a ha) | exact fun a ha => (e3 a (by omega) (by omega) (by omega) (by omega)).trans (h.2.2.2.2 a ha) | exact fun a ha => (hs5 a (by omega)).trans ((hs4' a (by omega)).trans ((hs3' a (by omega)).trans ((hs2 a (by omega)).trans (h.2.2.2.2 a ha))))), fun J2 => e235 (t235_0 ?_)⟩
  simp (disch := omega) only [vpT, nI_leI, nI_ltI, nI_eq, nleT, nleF, nltT, nltF, neqT, neqF, nI_add, pk_mul, subN, divN, nI_clamp, mI1, wrH, wrM1, wrM2, wrowH, wrowM, bI0, bI1, kIi, kVi, kRi, kLi, kIx, kVx, Option.some.injEq, exists_eq_left', true_and, and_true, true_implies, false_implies, implies_true, not_true_eq_false, not_false_eq_true, true_or, or_true, false_or, or_false, forall_eq, iteT, iteF, LK_ hK, LM_ hK.m, LB_ hK.b, em, m2]
  refine mp_finds (S := bd I (x + 1 + 2)) (n := n) (sn := sn) (dn := dn) (T := 1999) (sh := sh) (hd := hd) (y := nI 0) hK.m (by rw [wrM1 (by omega), em _ (by omega)]; exact h.r) h.i h.v.2.2.1 hs3 hol fun I4 hs4' hf4 _ hc4 => t235_17 ?_
  simp (disch := omega) only [vpT, nI_leI, nI_ltI, nI_eq, nleT, nleF, nltT, nltF, neqT, neqF, nI_add, pk_mul, subN, divN, nI_clamp, mI1, wrH, wrM1, wrM2, wrowH, wrowM, bI0, bI1, kIi, kVi, kRi, kLi, kIx, kVx, Option.some.injEq, exists_eq_left', true_and, and_true, true_implies, false_implies, implies_true, not_true_eq_false, not_false_eq_true, true_or, or_true, false_or, or_false, forall_eq, iteT, iteF, LK_ hK, LM_ hK.m, LB_ hK.b, hc4]
  exact f2 h (fun a ha => by rw [hs3' a (by omega), hs2 a (by omega)]) (em _ (by omega)) (hs4'.up fun a ha => by omega) (by rw [hs4' _ (by omega), wrM1 (by omega)]) (by rw [hs4' _ (by omega), wrM1 (by omega)]) (fun j hj => hf4 j (by omega))
theorem P_best {p1 : Int32} (hK : LK L x) (h : SX I0 I x n sn dn ac fi tp sd) : PR I0 L x 141 229 0 9 d e [.int p1] I J z l ex := by
  have hol := BI_or h.i
  obtain ⟨sh, hs3, hsh⟩ := h.v.2.2.2.2
  have m2 : I (x + 271 + 1) 2 = nI sh := h.r.1.2.2.1.trans hsh
  refine e141 (t141_0 ?_)
  refine sp_checkArgument (fun q => Or.inl ⟨rfl, (by unfold NE9; decide), I, J, rfl, (by first | exact h.2.2.2.2 | exact fun a ha => (em a (Or.inr ha)).trans (h.2.2.2.2 a ha) | exact fun a ha => (em2 a (Or.inr ha)).trans (h.2.2.2.2 a ha) | exact fun a ha => (hs a (by omega)).trans (h.2.2.2.2 a ha) | exact fun a ha => (wrM1 (by omega)).trans ((em a (Or.inr ha)).trans (h.2.2.2.2 a ha)) | exact fun a ha => (e3 a (by omega)).trans ((em a (Or.inr ha)).trans (h.2.2.2.2 a ha)) | exact fun a ha => (cs a (by omega) (by omega)).trans (h.2.2.2.2 a ha) | exact fun a ha => (hs2 a (by omega)).trans (h.2.2.2.2 a ha) | exact fun a ha => (e3 a (by omega) (by omega)).trans (h.2.2.2.2 a ha) | exact fun a ha => (e3 a (by omega) (by omega) (by omega) (by omega)).trans (h.2.2.2.2 a ha) | exact fun a ha => (hs5 a (by omega)).trans ((hs4' a (by omega)).trans ((hs3' a (by omega)).trans ((hs2 a (by omega)).trans (h.2.2.2.2 a ha))))), fun J2 => e229 (t229_0 ?_)⟩) (fun q1 q2 => t141_6 ?_)
  · simp (disch := omega) only [vpT, nI_leI, nI_ltI, nI_eq, nleT, nleF, nltT, nltF, neqT, neqF, nI_add, pk_mul, subN, divN, nI_clamp, mI1, wrH, wrM1, wrM2, wrowH, wrowM, bI0, bI1, kIi, kVi, kRi, kLi, kIx, kVx, Option.some.injEq, exists_eq_left', true_and, and_true, true_implies, false_implies, implies_true, not_true_eq_false, not_false_eq_true, true_or, or_true, false_or, or_false, forall_eq, iteT, iteF, LK_ hK, LM_ hK.m, LB_ hK.b]
    refine mp_isCostF q (t229_10 ?_)
    simp (disch := omega) only [vpT, nI_leI, nI_ltI, nI_eq, nleT, nleF, nltT, nltF, neqT, neqF, nI_add, pk_mul, subN, divN, nI_clamp, mI1, wrH, wrM1, wrM2, wrowH, wrowM, bI0, bI1, kIi, kVi, kRi, kLi, kIx, kVx, Option.some.injEq, exists_eq_left', true_and, and_true, true_implies, false_implies, implies_true, not_true_eq_false, not_false_eq_true, true_or, or_true, false_or, or_false, forall_eq, iteT, iteF, LK_ hK, LM_ hK.m, LB_ hK.b]
    refine mp_rightF hK.m (wrH rfl rfl) (by decide) (by decide) (t229_14 ?_)
    simp (disch := omega) only [vpT, nI_leI, nI_ltI, nI_eq, nleT, nleF, nltT, nltF, neqT, neqF, nI_add, pk_mul, subN, divN, nI_clamp, mI1, wrH, wrM1, wrM2, wrowH, wrowM, bI0, bI1, kIi, kVi, kRi, kLi, kIx, kVx, Option.some.injEq, exists_eq_left', true_and, and_true, true_implies, false_implies, implies_true, not_true_eq_false, not_false_eq_true, true_or, or_true, false_or, or_false, forall_eq, iteT, iteF, LK_ hK, LM_ hK.m, LB_ hK.b]
    exact ff h same.rf rfl
  simp (disch := omega) only [vpT, nI_leI, nI_ltI, nI_eq, nleT, nleF, nltT, nltF, neqT, neqF, nI_add, pk_mul, subN, divN, nI_clamp, mI1, wrH, wrM1, wrM2, wrowH, wrowM, bI0, bI1, kIi, kVi, kRi, kLi, kIx, kVx, Option.some.injEq, exists_eq_left', true_and, and_true, true_implies, false_implies, implies_true, not_true_eq_false, not_false_eq_true, true_or, or_true, false_or, or_false, forall_eq, iteT, iteF, LK_ hK, LM_ hK.m, LB_ hK.b]
  refine sp_bestCost (T := 1999) hK.r h.i h.v.2.2.1 h.v.2.2.2.1 h.v.2.1 hsh hs3 fun I2 v hs2 hF => t141_14 ?_
  have em : ∀ a, x + 271 ≤ a ∨ a < x → I2 a = I a := fun a ha => hs2 a (by omega)
  simp (disch := omega) only [vpT, nI_leI, nI_ltI, nI_eq, nleT, nleF, nltT, nltF, neqT, neqF, nI_add, pk_mul, subN, divN, nI_clamp, mI1, wrH, wrM1, wrM2, wrowH, wrowM, bI0, bI1, kIi, kVi, kRi, kLi, kIx, kVx, Option.some.injEq, exists_eq_left', true_and, and_true, true_implies, false_implies, implies_true, not_true_eq_false, not_false_eq_true, true_or, or_true, false_or, or_false, forall_eq, iteT, iteF, LK_ hK, LM_ hK.m, LB_ hK.b]
  refine ⟨I2, J, rfl, (by first | exact h.2.2.2.2 | exact fun a ha => (em a (Or.inr ha)).trans (h.2.2.2.2 a ha) | exact fun a ha => (em2 a (Or.inr ha)).trans (h.2.2.2.2 a ha) | exact fun a ha => (hs a (by omega)).trans (h.2.2.2.2 a ha) | exact fun a ha => (wrM1 (by omega)).trans ((em a (Or.inr ha)).trans (h.2.2.2.2 a ha)) | exact fun a ha => (e3 a (by omega)).trans ((em a (Or.inr ha)).trans (h.2.2.2.2 a ha)) | exact fun a ha => (cs a (by omega) (by omega)).trans (h.2.2.2.2 a ha) | exact fun a ha => (hs2 a (by omega)).trans (h.2.2.2.2 a ha) | exact fun a ha => (e3 a (by omega) (by omega)).trans (h.2.2.2.2 a ha) | exact fun a ha => (e3 a (by omega) (by omega) (by omega) (by omega)).trans (h.2.2.2.2 a ha) | exact fun a ha => (hs5 a (by omega)).trans ((hs4' a (by omega)).trans ((hs3' a (by omega)).trans ((hs2 a (by omega)).trans (h.2.2.2.2 a ha))))), fun J2 => e229 (t229_0 ?_)⟩
  simp (disch := omega) only [vpT, nI_leI, nI_ltI, nI_eq, nleT, nleF, nltT, nltF, neqT, neqF, nI_add, pk_mul, subN, divN, nI_clamp, mI1, wrH, wrM1, wrM2, wrowH, wrowM, bI0, bI1, kIi, kVi, kRi, kLi, kIx, kVx, Option.some.injEq, exists_eq_left', true_and, and_true, true_implies, false_implies, implies_true, not_true_eq_false, not_false_eq_true, true_or, or_true, false_or, or_false, forall_eq, iteT, iteF, LK_ hK, LM_ hK.m, LB_ hK.b]
  refine mp_isCostT ⟨q1, q2⟩ (t229_10 ?_)
  simp (disch := omega) only [vpT, nI_leI, nI_ltI, nI_eq, nleT, nleF, nltT, nltF, neqT, neqF, nI_add, pk_mul, subN, divN, nI_clamp, mI1, wrH, wrM1, wrM2, wrowH, wrowM, bI0, bI1, kIi, kVi, kRi, kLi, kIx, kVx, Option.some.injEq, exists_eq_left', true_and, and_true, true_implies, false_implies, implies_true, not_true_eq_false, not_false_eq_true, true_or, or_true, false_or, or_false, forall_eq, iteT, iteF, LK_ hK, LM_ hK.m, LB_ hK.b]
  refine mp_rightT hK.m (wrH rfl rfl) (t229_14 ?_)
  simp (disch := omega) only [vpT, nI_leI, nI_ltI, nI_eq, nleT, nleF, nltT, nltF, neqT, neqF, nI_add, pk_mul, subN, divN, nI_clamp, mI1, wrH, wrM1, wrM2, wrowH, wrowM, bI0, bI1, kIi, kVi, kRi, kLi, kIx, kVx, Option.some.injEq, exists_eq_left', true_and, and_true, true_implies, false_implies, implies_true, not_true_eq_false, not_false_eq_true, true_or, or_true, false_or, or_false, forall_eq, iteT, iteF, LK_ hK, LM_ hK.m, LB_ hK.b, em, m2]
  refine mp_finds (S := bd I (x + 1 + 2)) (n := n) (sn := sn) (dn := dn) (T := 1999) (sh := sh) (hd := true) (y := p1) hK.m (by rw [wrM1 (by omega), em _ (by omega)]; exact h.r) h.i h.v.2.2.1 hs3 hol fun I4 hs4' hf4 hB4 _ => t229_31 ?_
  obtain ⟨g0, hB4⟩ := hB4 rfl
  simp (disch := omega) only [vpT, nI_leI, nI_ltI, nI_eq, nleT, nleF, nltT, nltF, neqT, neqF, nI_add, pk_mul, subN, divN, nI_clamp, mI1, wrH, wrM1, wrM2, wrowH, wrowM, bI0, bI1, kIi, kVi, kRi, kLi, kIx, kVx, Option.some.injEq, exists_eq_left', true_and, and_true, true_implies, false_implies, implies_true, not_true_eq_false, not_false_eq_true, true_or, or_true, false_or, or_false, forall_eq, iteT, iteF, LK_ hK, LM_ hK.m, LB_ hK.b]
  refine mp_told hK.m (t229_35 ?_)
  simp (disch := omega) only [vpT, nI_leI, nI_ltI, nI_eq, nleT, nleF, nltT, nltF, neqT, neqF, nI_add, pk_mul, subN, divN, nI_clamp, mI1, wrH, wrM1, wrM2, wrowH, wrowM, bI0, bI1, kIi, kVi, kRi, kLi, kIx, kVx, Option.some.injEq, exists_eq_left', true_and, and_true, true_implies, false_implies, implies_true, not_true_eq_false, not_false_eq_true, true_or, or_true, false_or, or_false, forall_eq, iteT, iteF, LK_ hK, LM_ hK.m, LB_ hK.b]
  exact ⟨fs_told h.i h.v.2.2.1 hF hB4, f2 h (hs2.up fun a ha => by omega) (em _ (by omega)) (hs4'.up fun a ha => by omega) (by rw [hs4' _ (by omega), wrM1 (by omega)]) (by rw [hs4' _ (by omega), wrM1 (by omega)]) (fun j hj => hf4 j (by omega))⟩
theorem P_bestAt {p1 p2 : Int32} (hK : LK L x) (h : SX I0 I x n sn dn ac fi tp sd) : PR I0 L x 143 234 0 1 d e [.int p1, .int p2] I J z l ex := by
  have hn := h.n10
  have hol := BI_or h.i
  obtain ⟨sh, hs3, hsh⟩ := h.v.2.2.2.2
  have m2 : I (x + 271 + 1) 2 = nI sh := h.r.1.2.2.1.trans hsh
  refine e143 (t143_0 ?_)
  refine sp_checkArgument (fun q => Or.inl ⟨rfl, (by unfold NE9; decide), I, J, rfl, (by first | exact h.2.2.2.2 | exact fun a ha => (em a (Or.inr ha)).trans (h.2.2.2.2 a ha) | exact fun a ha => (em2 a (Or.inr ha)).trans (h.2.2.2.2 a ha) | exact fun a ha => (hs a (by omega)).trans (h.2.2.2.2 a ha) | exact fun a ha => (wrM1 (by omega)).trans ((em a (Or.inr ha)).trans (h.2.2.2.2 a ha)) | exact fun a ha => (e3 a (by omega)).trans ((em a (Or.inr ha)).trans (h.2.2.2.2 a ha)) | exact fun a ha => (cs a (by omega) (by omega)).trans (h.2.2.2.2 a ha) | exact fun a ha => (hs2 a (by omega)).trans (h.2.2.2.2 a ha) | exact fun a ha => (e3 a (by omega) (by omega)).trans (h.2.2.2.2 a ha) | exact fun a ha => (e3 a (by omega) (by omega) (by omega) (by omega)).trans (h.2.2.2.2 a ha) | exact fun a ha => (hs5 a (by omega)).trans ((hs4' a (by omega)).trans ((hs3' a (by omega)).trans ((hs2 a (by omega)).trans (h.2.2.2.2 a ha))))), fun J2 => e234 (t234_0 ?_)⟩) (fun q1 q2 => t143_6 ?_)
  · simp (disch := omega) only [vpT, nI_leI, nI_ltI, nI_eq, nleT, nleF, nltT, nltF, neqT, neqF, nI_add, pk_mul, subN, divN, nI_clamp, mI1, wrH, wrM1, wrM2, wrowH, wrowM, bI0, bI1, kIi, kVi, kRi, kLi, kIx, kVx, Option.some.injEq, exists_eq_left', true_and, and_true, true_implies, false_implies, implies_true, not_true_eq_false, not_false_eq_true, true_or, or_true, false_or, or_false, forall_eq, iteT, iteF, LK_ hK, LM_ hK.m, LB_ hK.b]
    refine mp_isCostF q (t234_10 ?_)
    simp (disch := omega) only [vpT, nI_leI, nI_ltI, nI_eq, nleT, nleF, nltT, nltF, neqT, neqF, nI_add, pk_mul, subN, divN, nI_clamp, mI1, wrH, wrM1, wrM2, wrowH, wrowM, bI0, bI1, kIi, kVi, kRi, kLi, kIx, kVx, Option.some.injEq, exists_eq_left', true_and, and_true, true_implies, false_implies, implies_true, not_true_eq_false, not_false_eq_true, true_or, or_true, false_or, or_false, forall_eq, iteT, iteF, LK_ hK, LM_ hK.m, LB_ hK.b]
    refine mp_rightF hK.m (wrH rfl rfl) (by decide) (by decide) (t234_14 ?_)
    simp (disch := omega) only [vpT, nI_leI, nI_ltI, nI_eq, nleT, nleF, nltT, nltF, neqT, neqF, nI_add, pk_mul, subN, divN, nI_clamp, mI1, wrH, wrM1, wrM2, wrowH, wrowM, bI0, bI1, kIi, kVi, kRi, kLi, kIx, kVx, Option.some.injEq, exists_eq_left', true_and, and_true, true_implies, false_implies, implies_true, not_true_eq_false, not_false_eq_true, true_or, or_true, false_or, or_false, forall_eq, iteT, iteF, LK_ hK, LM_ hK.m, LB_ hK.b]
    exact ff h same.rf rfl
  simp (disch := omega) only [vpT, nI_leI, nI_ltI, nI_eq, nleT, nleF, nltT, nltF, neqT, neqF, nI_add, pk_mul, subN, divN, nI_clamp, mI1, wrH, wrM1, wrM2, wrowH, wrowM, bI0, bI1, kIi, kVi, kRi, kLi, kIx, kVx, Option.some.injEq, exists_eq_left', true_and, and_true, true_implies, false_implies, implies_true, not_true_eq_false, not_false_eq_true, true_or, or_true, false_or, or_false, forall_eq, iteT, iteF, LK_ hK, LM_ hK.m, LB_ hK.b, h.n0]
  refine sp_checkElement (fun q => Or.inr ⟨rfl, (by unfold NE9; decide), I, J, rfl, (by first | exact h.2.2.2.2 | exact fun a ha => (em a (Or.inr ha)).trans (h.2.2.2.2 a ha) | exact fun a ha => (em2 a (Or.inr ha)).trans (h.2.2.2.2 a ha) | exact fun a ha => (hs a (by omega)).trans (h.2.2.2.2 a ha) | exact fun a ha => (wrM1 (by omega)).trans ((em a (Or.inr ha)).trans (h.2.2.2.2 a ha)) | exact fun a ha => (e3 a (by omega)).trans ((em a (Or.inr ha)).trans (h.2.2.2.2 a ha)) | exact fun a ha => (cs a (by omega) (by omega)).trans (h.2.2.2.2 a ha) | exact fun a ha => (hs2 a (by omega)).trans (h.2.2.2.2 a ha) | exact fun a ha => (e3 a (by omega) (by omega)).trans (h.2.2.2.2 a ha) | exact fun a ha => (e3 a (by omega) (by omega) (by omega) (by omega)).trans (h.2.2.2.2 a ha) | exact fun a ha => (hs5 a (by omega)).trans ((hs4' a (by omega)).trans ((hs3' a (by omega)).trans ((hs2 a (by omega)).trans (h.2.2.2.2 a ha))))), fun J2 => e234 (t234_0 ?_)⟩) (fun q3 q4 => t143_20 ?_)
  · simp (disch := omega) only [vpT, nI_leI, nI_ltI, nI_eq, nleT, nleF, nltT, nltF, neqT, neqF, nI_add, pk_mul, subN, divN, nI_clamp, mI1, wrH, wrM1, wrM2, wrowH, wrowM, bI0, bI1, kIi, kVi, kRi, kLi, kIx, kVx, Option.some.injEq, exists_eq_left', true_and, and_true, true_implies, false_implies, implies_true, not_true_eq_false, not_false_eq_true, true_or, or_true, false_or, or_false, forall_eq, iteT, iteF, LK_ hK, LM_ hK.m, LB_ hK.b]
    refine mp_isCostT ⟨q1, q2⟩ (t234_10 ?_)
    simp (disch := omega) only [vpT, nI_leI, nI_ltI, nI_eq, nleT, nleF, nltT, nltF, neqT, neqF, nI_add, pk_mul, subN, divN, nI_clamp, mI1, wrH, wrM1, wrM2, wrowH, wrowM, bI0, bI1, kIi, kVi, kRi, kLi, kIx, kVx, Option.some.injEq, exists_eq_left', true_and, and_true, true_implies, false_implies, implies_true, not_true_eq_false, not_false_eq_true, true_or, or_true, false_or, or_false, forall_eq, iteT, iteF, LK_ hK, LM_ hK.m, LB_ hK.b]
    refine mp_rightT hK.m (wrH rfl rfl) (t234_14 ?_)
    simp (disch := omega) only [vpT, nI_leI, nI_ltI, nI_eq, nleT, nleF, nltT, nltF, neqT, neqF, nI_add, pk_mul, subN, divN, nI_clamp, mI1, wrH, wrM1, wrM2, wrowH, wrowM, bI0, bI1, kIi, kVi, kRi, kLi, kIx, kVx, Option.some.injEq, exists_eq_left', true_and, and_true, true_implies, false_implies, implies_true, not_true_eq_false, not_false_eq_true, true_or, or_true, false_or, or_false, forall_eq, iteT, iteF, LK_ hK, LM_ hK.m, LB_ hK.b, h.m0]
    refine mp_elF (by omega) q (t234_33 ?_)
    simp (disch := omega) only [vpT, nI_leI, nI_ltI, nI_eq, nleT, nleF, nltT, nltF, neqT, neqF, nI_add, pk_mul, subN, divN, nI_clamp, mI1, wrH, wrM1, wrM2, wrowH, wrowM, bI0, bI1, kIi, kVi, kRi, kLi, kIx, kVx, Option.some.injEq, exists_eq_left', true_and, and_true, true_implies, false_implies, implies_true, not_true_eq_false, not_false_eq_true, true_or, or_true, false_or, or_false, forall_eq, iteT, iteF, LK_ hK, LM_ hK.m, LB_ hK.b]
    refine mp_rightF hK.m (wrH rfl rfl) (by decide) (by decide) (t234_37 ?_)
    simp (disch := omega) only [vpT, nI_leI, nI_ltI, nI_eq, nleT, nleF, nltT, nltF, neqT, neqF, nI_add, pk_mul, subN, divN, nI_clamp, mI1, wrH, wrM1, wrM2, wrowH, wrowM, bI0, bI1, kIi, kVi, kRi, kLi, kIx, kVx, Option.some.injEq, exists_eq_left', true_and, and_true, true_implies, false_implies, implies_true, not_true_eq_false, not_false_eq_true, true_or, or_true, false_or, or_false, forall_eq, iteT, iteF, LK_ hK, LM_ hK.m, LB_ hK.b]
    exact ff h same.rf rfl
  obtain ⟨k, hk, rfl⟩ := i_lt (by omega) q3 q4
  simp (disch := omega) only [vpT, nI_leI, nI_ltI, nI_eq, nleT, nleF, nltT, nltF, neqT, neqF, nI_add, pk_mul, subN, divN, nI_clamp, mI1, wrH, wrM1, wrM2, wrowH, wrowM, bI0, bI1, kIi, kVi, kRi, kLi, kIx, kVx, Option.some.injEq, exists_eq_left', true_and, and_true, true_implies, false_implies, implies_true, not_true_eq_false, not_false_eq_true, true_or, or_true, false_or, or_false, forall_eq, iteT, iteF, LK_ hK, LM_ hK.m, LB_ hK.b]
  refine sp_bestCost (T := 1999) hK.r h.i h.v.2.2.1 h.v.2.2.2.1 h.v.2.1 hsh hs3 fun I2 v hs2 hF => t143_28 ?_
  have em : ∀ a, x + 271 ≤ a ∨ a < x → I2 a = I a := fun a ha => hs2 a (by omega)
  have key : ∀ r, (v = -1 → r = -1) → (¬ v = -1 → r = I2 (x + 1 + 18) k) → MD I0 L x 234 e [.int p1, .int (nI k)] (fun r2 => r2 = r) 0 (z, l, ex) (L, I2, J, z, l, ex) := by
    intro r w1 w2
    refine ⟨I2, J, rfl, (by first | exact h.2.2.2.2 | exact fun a ha => (em a (Or.inr ha)).trans (h.2.2.2.2 a ha) | exact fun a ha => (em2 a (Or.inr ha)).trans (h.2.2.2.2 a ha) | exact fun a ha => (hs a (by omega)).trans (h.2.2.2.2 a ha) | exact fun a ha => (wrM1 (by omega)).trans ((em a (Or.inr ha)).trans (h.2.2.2.2 a ha)) | exact fun a ha => (e3 a (by omega)).trans ((em a (Or.inr ha)).trans (h.2.2.2.2 a ha)) | exact fun a ha => (cs a (by omega) (by omega)).trans (h.2.2.2.2 a ha) | exact fun a ha => (hs2 a (by omega)).trans (h.2.2.2.2 a ha) | exact fun a ha => (e3 a (by omega) (by omega)).trans (h.2.2.2.2 a ha) | exact fun a ha => (e3 a (by omega) (by omega) (by omega) (by omega)).trans (h.2.2.2.2 a ha) | exact fun a ha => (hs5 a (by omega)).trans ((hs4' a (by omega)).trans ((hs3' a (by omega)).trans ((hs2 a (by omega)).trans (h.2.2.2.2 a ha))))), fun J2 => e234 (t234_0 ?_)⟩
    simp (disch := omega) only [vpT, nI_leI, nI_ltI, nI_eq, nleT, nleF, nltT, nltF, neqT, neqF, nI_add, pk_mul, subN, divN, nI_clamp, mI1, wrH, wrM1, wrM2, wrowH, wrowM, bI0, bI1, kIi, kVi, kRi, kLi, kIx, kVx, Option.some.injEq, exists_eq_left', true_and, and_true, true_implies, false_implies, implies_true, not_true_eq_false, not_false_eq_true, true_or, or_true, false_or, or_false, forall_eq, iteT, iteF, LK_ hK, LM_ hK.m, LB_ hK.b]
    refine mp_isCostT ⟨q1, q2⟩ (t234_10 ?_)
    simp (disch := omega) only [vpT, nI_leI, nI_ltI, nI_eq, nleT, nleF, nltT, nltF, neqT, neqF, nI_add, pk_mul, subN, divN, nI_clamp, mI1, wrH, wrM1, wrM2, wrowH, wrowM, bI0, bI1, kIi, kVi, kRi, kLi, kIx, kVx, Option.some.injEq, exists_eq_left', true_and, and_true, true_implies, false_implies, implies_true, not_true_eq_false, not_false_eq_true, true_or, or_true, false_or, or_false, forall_eq, iteT, iteF, LK_ hK, LM_ hK.m, LB_ hK.b]
    refine mp_rightT hK.m (wrH rfl rfl) (t234_14 ?_)
    simp (disch := omega) only [vpT, nI_leI, nI_ltI, nI_eq, nleT, nleF, nltT, nltF, neqT, neqF, nI_add, pk_mul, subN, divN, nI_clamp, mI1, wrH, wrM1, wrM2, wrowH, wrowM, bI0, bI1, kIi, kVi, kRi, kLi, kIx, kVx, Option.some.injEq, exists_eq_left', true_and, and_true, true_implies, false_implies, implies_true, not_true_eq_false, not_false_eq_true, true_or, or_true, false_or, or_false, forall_eq, iteT, iteF, LK_ hK, LM_ hK.m, LB_ hK.b, em, h.m0]
    refine mp_elN hk (by omega) (t234_33 ?_)
    simp (disch := omega) only [vpT, nI_leI, nI_ltI, nI_eq, nleT, nleF, nltT, nltF, neqT, neqF, nI_add, pk_mul, subN, divN, nI_clamp, mI1, wrH, wrM1, wrM2, wrowH, wrowM, bI0, bI1, kIi, kVi, kRi, kLi, kIx, kVx, Option.some.injEq, exists_eq_left', true_and, and_true, true_implies, false_implies, implies_true, not_true_eq_false, not_false_eq_true, true_or, or_true, false_or, or_false, forall_eq, iteT, iteF, LK_ hK, LM_ hK.m, LB_ hK.b]
    refine mp_rightT hK.m (wrH rfl rfl) (t234_37 ?_)
    simp (disch := omega) only [vpT, nI_leI, nI_ltI, nI_eq, nleT, nleF, nltT, nltF, neqT, neqF, nI_add, pk_mul, subN, divN, nI_clamp, mI1, wrH, wrM1, wrM2, wrowH, wrowM, bI0, bI1, kIi, kVi, kRi, kLi, kIx, kVx, Option.some.injEq, exists_eq_left', true_and, and_true, true_implies, false_implies, implies_true, not_true_eq_false, not_false_eq_true, true_or, or_true, false_or, or_false, forall_eq, iteT, iteF, LK_ hK, LM_ hK.m, LB_ hK.b, em, m2]
    refine mp_finds (S := bd I (x + 1 + 2)) (n := n) (sn := sn) (dn := dn) (T := 1999) (sh := sh) (hd := true) (y := p1) hK.m (by rw [wrM1 (by omega), em _ (by omega)]; exact h.r) h.i h.v.2.2.1 hs3 hol fun I4 hs4' hf4 hB4 _ => t234_54 ?_
    obtain ⟨g0, hB4⟩ := hB4 rfl
    have fin := f2 (L := L) (J := J2) (t := (z, l, ex)) h (hs2.up fun a ha => by omega) (em _ (by omega)) (hs4'.up fun a ha => by omega) (by rw [hs4' _ (by omega), wrM1 (by omega)]) (by rw [hs4' _ (by omega), wrM1 (by omega)]) (fun j hj => hf4 j (by omega))
    rcases find_same h.i h.v.2.2.1 hF hB4 with ⟨z1, z2, z3⟩ | ⟨z1, z2, z3, o', z4, z5, z6⟩
    · simp (disch := omega) only [vpT, nI_leI, nI_ltI, nI_eq, nleT, nleF, nltT, nltF, neqT, neqF, nI_add, pk_mul, subN, divN, nI_clamp, mI1, wrH, wrM1, wrM2, wrowH, wrowM, bI0, bI1, kIi, kVi, kRi, kLi, kIx, kVx, Option.some.injEq, exists_eq_left', true_and, and_true, true_implies, false_implies, implies_true, not_true_eq_false, not_false_eq_true, true_or, or_true, false_or, or_false, forall_eq, iteT, iteF, LK_ hK, LM_ hK.m, LB_ hK.b, z2]
      exact ⟨(w1 z1).symm, fin⟩
    · have n1 : (I4 (x + 271) 20 = nI 1000000000) = False := eq_false z2
      simp (disch := omega) only [vpT, nI_leI, nI_ltI, nI_eq, nleT, nleF, nltT, nltF, neqT, neqF, nI_add, pk_mul, subN, divN, nI_clamp, mI1, wrH, wrM1, wrM2, wrowH, wrowM, bI0, bI1, kIi, kVi, kRi, kLi, kIx, kVx, Option.some.injEq, exists_eq_left', true_and, and_true, true_implies, false_implies, implies_true, not_true_eq_false, not_false_eq_true, true_or, or_true, false_or, or_false, forall_eq, iteT, iteF, LK_ hK, LM_ hK.m, LB_ hK.b, n1]
      exact ⟨by rw [w2 z3, z5 k hk, z6 k hk], fin⟩
  by_cases hv : v = -1
  · refine ⟨fun q => absurd hv q, fun _ => ?_⟩
    simp (disch := omega) only [vpT, nI_leI, nI_ltI, nI_eq, nleT, nleF, nltT, nltF, neqT, neqF, nI_add, pk_mul, subN, divN, nI_clamp, mI1, wrH, wrM1, wrM2, wrowH, wrowM, bI0, bI1, kIi, kVi, kRi, kLi, kIx, kVx, Option.some.injEq, exists_eq_left', true_and, and_true, true_implies, false_implies, implies_true, not_true_eq_false, not_false_eq_true, true_or, or_true, false_or, or_false, forall_eq, iteT, iteF, LK_ hK, LM_ hK.m, LB_ hK.b]
    exact key _ (fun _ => rfl) (fun q => absurd hv q)
  · refine ⟨fun _ => ?_, fun q => absurd q hv⟩
    simp (disch := omega) only [vpT, nI_leI, nI_ltI, nI_eq, nleT, nleF, nltT, nltF, neqT, neqF, nI_add, pk_mul, subN, divN, nI_clamp, mI1, wrH, wrM1, wrM2, wrowH, wrowM, bI0, bI1, kIi, kVi, kRi, kLi, kIx, kVx, Option.some.injEq, exists_eq_left', true_and, and_true, true_implies, false_implies, implies_true, not_true_eq_false, not_false_eq_true, true_or, or_true, false_or, or_false, forall_eq, iteT, iteF, LK_ hK, LM_ hK.m, LB_ hK.b]
    exact key _ (fun q => absurd q hv) (fun _ => rfl)
theorem P_worth {p1 : Int32} (hK : LK L x) (h : SX I0 I x n sn dn ac fi tp sd) : PR I0 L x 145 236 0 9 d e [.int p1] I J z l ex := by
  have hn := h.n10
  have hs4 := h.i.2.1.2
  have hd20 := h.i.2.2.1.2
  refine e145 (t145_0 ?_)
  refine sp_checkArgument (fun q => Or.inl ⟨rfl, (by unfold NE9; decide), I, J, rfl, (by first | exact h.2.2.2.2 | exact fun a ha => (em a (Or.inr ha)).trans (h.2.2.2.2 a ha) | exact fun a ha => (em2 a (Or.inr ha)).trans (h.2.2.2.2 a ha) | exact fun a ha => (hs a (by omega)).trans (h.2.2.2.2 a ha) | exact fun a ha => (wrM1 (by omega)).trans ((em a (Or.inr ha)).trans (h.2.2.2.2 a ha)) | exact fun a ha => (e3 a (by omega)).trans ((em a (Or.inr ha)).trans (h.2.2.2.2 a ha)) | exact fun a ha => (cs a (by omega) (by omega)).trans (h.2.2.2.2 a ha) | exact fun a ha => (hs2 a (by omega)).trans (h.2.2.2.2 a ha) | exact fun a ha => (e3 a (by omega) (by omega)).trans (h.2.2.2.2 a ha) | exact fun a ha => (e3 a (by omega) (by omega) (by omega) (by omega)).trans (h.2.2.2.2 a ha) | exact fun a ha => (hs5 a (by omega)).trans ((hs4' a (by omega)).trans ((hs3' a (by omega)).trans ((hs2 a (by omega)).trans (h.2.2.2.2 a ha))))), fun J2 => e236 (t236_0 ?_)⟩) (fun q1 q2 => t145_6 ?_)
  · simp (disch := omega) only [vpT, nI_leI, nI_ltI, nI_eq, nleT, nleF, nltT, nltF, neqT, neqF, nI_add, pk_mul, subN, divN, nI_clamp, mI1, wrH, wrM1, wrM2, wrowH, wrowM, bI0, bI1, kIi, kVi, kRi, kLi, kIx, kVx, Option.some.injEq, exists_eq_left', true_and, and_true, true_implies, false_implies, implies_true, not_true_eq_false, not_false_eq_true, true_or, or_true, false_or, or_false, forall_eq, iteT, iteF, LK_ hK, LM_ hK.m, LB_ hK.b]
    refine mp_inF (lo := nI 0) (hi := nI 3) rfl rfl q (t236_15 ?_)
    simp (disch := omega) only [vpT, nI_leI, nI_ltI, nI_eq, nleT, nleF, nltT, nltF, neqT, neqF, nI_add, pk_mul, subN, divN, nI_clamp, mI1, wrH, wrM1, wrM2, wrowH, wrowM, bI0, bI1, kIi, kVi, kRi, kLi, kIx, kVx, Option.some.injEq, exists_eq_left', true_and, and_true, true_implies, false_implies, implies_true, not_true_eq_false, not_false_eq_true, true_or, or_true, false_or, or_false, forall_eq, iteT, iteF, LK_ hK, LM_ hK.m, LB_ hK.b]
    refine mp_rightF hK.m (wrH rfl rfl) (by decide) (by decide) (t236_19 ?_)
    simp (disch := omega) only [vpT, nI_leI, nI_ltI, nI_eq, nleT, nleF, nltT, nltF, neqT, neqF, nI_add, pk_mul, subN, divN, nI_clamp, mI1, wrH, wrM1, wrM2, wrowH, wrowM, bI0, bI1, kIi, kVi, kRi, kLi, kIx, kVx, Option.some.injEq, exists_eq_left', true_and, and_true, true_implies, false_implies, implies_true, not_true_eq_false, not_false_eq_true, true_or, or_true, false_or, or_false, forall_eq, iteT, iteF, LK_ hK, LM_ hK.m, LB_ hK.b]
    exact ff h same.rf rfl
  obtain ⟨k, hk, rfl⟩ := i_le (by omega) q1 q2
  simp (disch := omega) only [vpT, nI_leI, nI_ltI, nI_eq, nleT, nleF, nltT, nltF, neqT, neqF, nI_add, pk_mul, subN, divN, nI_clamp, mI1, wrH, wrM1, wrM2, wrowH, wrowM, bI0, bI1, kIi, kVi, kRi, kLi, kIx, kVx, Option.some.injEq, exists_eq_left', true_and, and_true, true_implies, false_implies, implies_true, not_true_eq_false, not_false_eq_true, true_or, or_true, false_or, or_false, forall_eq, iteT, iteF, LK_ hK, LM_ hK.m, LB_ hK.b]
  refine sp_paper hK fun I2 hs2 hA2 => t145_10 ?_
  have hV2 := h.v.ag hA2
  have hR2 := h.r.ag hn hs4 hd20 hA2
  have hol := BI_or hV2.1
  simp (disch := omega) only [vpT, nI_leI, nI_ltI, nI_eq, nleT, nleF, nltT, nltF, neqT, neqF, nI_add, pk_mul, subN, divN, nI_clamp, mI1, wrH, wrM1, wrM2, wrowH, wrowM, bI0, bI1, kIi, kVi, kRi, kLi, kIx, kVx, Option.some.injEq, exists_eq_left', true_and, and_true, true_implies, false_implies, implies_true, not_true_eq_false, not_false_eq_true, true_or, or_true, false_or, or_false, forall_eq, iteT, iteF, LK_ hK, LM_ hK.m, LB_ hK.b]
  have eb3 : bd (wr I2 (x + 28 + 2) 11 (nI k)) (x + 28 + 2) = sS (bd I2 (x + 28 + 2)) k := by
    have r0 : wr I2 (x + 28 + 2) 11 (nI k) (x + 28 + 2) = fun j => if j = 11 then nI k else I2 (x + 28 + 2) j := funext fun j => by
      by_cases q : j = 11
      · rw [if_pos q]; exact wrH rfl q
      · rw [if_neg q, wrM2 q]
    have r1 : ∀ a, a ≠ x + 28 + 2 → wr I2 (x + 28 + 2) 11 (nI k) a = I2 a := fun a ha => wrM1 ha
    generalize wr I2 (x + 28 + 2) 11 (nI k) = I3 at r0 r1
    simp (disch := omega) only [bd, r1, r0, sS]
  have hV3 := hV2.sS hk
  refine sp_bestCost (T := 1999) (n := n) (sn := sn) (dn := dn) (sh := k) hK.p (by rw [eb3]; exact hV3.1) (by rw [eb3]; exact hV3.2.2.1) (by rw [eb3]; exact hV3.2.2.2.1) (by rw [eb3]; exact hV3.2.1) (by rw [eb3]; rfl) hk fun I4 v hs4' hF => t145_25 ?_
  rw [eb3, frz_sS] at hF
  have hF := Fnd_sS hF
  simp (disch := omega) only [vpT, nI_leI, nI_ltI, nI_eq, nleT, nleF, nltT, nltF, neqT, neqF, nI_add, pk_mul, subN, divN, nI_clamp, mI1, wrH, wrM1, wrM2, wrowH, wrowM, bI0, bI1, kIi, kVi, kRi, kLi, kIx, kVx, Option.some.injEq, exists_eq_left', true_and, and_true, true_implies, false_implies, implies_true, not_true_eq_false, not_false_eq_true, true_or, or_true, false_or, or_false, forall_eq, iteT, iteF, LK_ hK, LM_ hK.m, LB_ hK.b]
  have em : ∀ a, x + 271 ≤ a ∨ a < x → I4 a = I a := fun a ha => by rw [hs4' a (by omega), wrM1 (by omega), hs2 a (by omega)]
  refine ⟨I4, J, rfl, (by first | exact h.2.2.2.2 | exact fun a ha => (em a (Or.inr ha)).trans (h.2.2.2.2 a ha) | exact fun a ha => (em2 a (Or.inr ha)).trans (h.2.2.2.2 a ha) | exact fun a ha => (hs a (by omega)).trans (h.2.2.2.2 a ha) | exact fun a ha => (wrM1 (by omega)).trans ((em a (Or.inr ha)).trans (h.2.2.2.2 a ha)) | exact fun a ha => (e3 a (by omega)).trans ((em a (Or.inr ha)).trans (h.2.2.2.2 a ha)) | exact fun a ha => (cs a (by omega) (by omega)).trans (h.2.2.2.2 a ha) | exact fun a ha => (hs2 a (by omega)).trans (h.2.2.2.2 a ha) | exact fun a ha => (e3 a (by omega) (by omega)).trans (h.2.2.2.2 a ha) | exact fun a ha => (e3 a (by omega) (by omega) (by omega) (by omega)).trans (h.2.2.2.2 a ha) | exact fun a ha => (hs5 a (by omega)).trans ((hs4' a (by omega)).trans ((hs3' a (by omega)).trans ((hs2 a (by omega)).trans (h.2.2.2.2 a ha))))), fun J2 => e236 (t236_0 ?_)⟩
  simp (disch := omega) only [vpT, nI_leI, nI_ltI, nI_eq, nleT, nleF, nltT, nltF, neqT, neqF, nI_add, pk_mul, subN, divN, nI_clamp, mI1, wrH, wrM1, wrM2, wrowH, wrowM, bI0, bI1, kIi, kVi, kRi, kLi, kIx, kVx, Option.some.injEq, exists_eq_left', true_and, and_true, true_implies, false_implies, implies_true, not_true_eq_false, not_false_eq_true, true_or, or_true, false_or, or_false, forall_eq, iteT, iteF, LK_ hK, LM_ hK.m, LB_ hK.b]
  refine mp_inT (lo := nI 0) (hi := nI 3) rfl rfl ⟨q1, q2⟩ (t236_15 ?_)
  simp (disch := omega) only [vpT, nI_leI, nI_ltI, nI_eq, nleT, nleF, nltT, nltF, neqT, neqF, nI_add, pk_mul, subN, divN, nI_clamp, mI1, wrH, wrM1, wrM2, wrowH, wrowM, bI0, bI1, kIi, kVi, kRi, kLi, kIx, kVx, Option.some.injEq, exists_eq_left', true_and, and_true, true_implies, false_implies, implies_true, not_true_eq_false, not_false_eq_true, true_or, or_true, false_or, or_false, forall_eq, iteT, iteF, LK_ hK, LM_ hK.m, LB_ hK.b]
  refine mp_rightT hK.m (wrH rfl rfl) (t236_19 ?_)
  simp (disch := omega) only [vpT, nI_leI, nI_ltI, nI_eq, nleT, nleF, nltT, nltF, neqT, neqF, nI_add, pk_mul, subN, divN, nI_clamp, mI1, wrH, wrM1, wrM2, wrowH, wrowM, bI0, bI1, kIi, kVi, kRi, kLi, kIx, kVx, Option.some.injEq, exists_eq_left', true_and, and_true, true_implies, false_implies, implies_true, not_true_eq_false, not_false_eq_true, true_or, or_true, false_or, or_false, forall_eq, iteT, iteF, LK_ hK, LM_ hK.m, LB_ hK.b]
  refine mp_finds (S := bd I2 (x + 28 + 2)) (n := n) (sn := sn) (dn := dn) (T := 1999) (sh := k) (hd := true) (y := nI 0) hK.m (by rw [wrM1 (by omega), em _ (by omega)]; exact hR2) hV2.1 hV2.2.2.1 hk hol fun I5 hs5 hf5 hB5 _ => t236_31 ?_
  obtain ⟨g0, hB5⟩ := hB5 rfl
  simp (disch := omega) only [vpT, nI_leI, nI_ltI, nI_eq, nleT, nleF, nltT, nltF, neqT, neqF, nI_add, pk_mul, subN, divN, nI_clamp, mI1, wrH, wrM1, wrM2, wrowH, wrowM, bI0, bI1, kIi, kVi, kRi, kLi, kIx, kVx, Option.some.injEq, exists_eq_left', true_and, and_true, true_implies, false_implies, implies_true, not_true_eq_false, not_false_eq_true, true_or, or_true, false_or, or_false, forall_eq, iteT, iteF, LK_ hK, LM_ hK.m, LB_ hK.b]
  refine mp_told hK.m (t236_35 ?_)
  simp (disch := omega) only [vpT, nI_leI, nI_ltI, nI_eq, nleT, nleF, nltT, nltF, neqT, neqF, nI_add, pk_mul, subN, divN, nI_clamp, mI1, wrH, wrM1, wrM2, wrowH, wrowM, bI0, bI1, kIi, kVi, kRi, kLi, kIx, kVx, Option.some.injEq, exists_eq_left', true_and, and_true, true_implies, false_implies, implies_true, not_true_eq_false, not_false_eq_true, true_or, or_true, false_or, or_false, forall_eq, iteT, iteF, LK_ hK, LM_ hK.m, LB_ hK.b]
  exact ⟨fs_told hV2.1 hV2.2.2.1 hF hB5, f2 h (fun a ha => by rw [hs4' a (by omega), wrM1 (by omega), hs2 a (by omega)]) (em _ (by omega)) (hs5.up fun a ha => by omega) (by rw [hs5 _ (by omega), wrM1 (by omega)]) (by rw [hs5 _ (by omega), wrM1 (by omega)]) (fun j hj => hf5 j (by omega))⟩
end CALLS8
