/-! The law's calls: losses, days, holes, sorts. -/
theorem cntB_upd {f g : Nat → Bool} {q : Nat} : ∀ {n : Nat}, q < n → (∀ k, k < n → k ≠ q → f k = g k) → cntB f n + (if g q then 1 else 0) = cntB g n + (if f q then 1 else 0)
  | 0, h, _ => by omega
  | n + 1, h, e => by
    unfold cntB
    by_cases hq : q = n
    · rw [hq, cntB_congr (p := f) (q := g) fun j hj => e j (by omega) (by omega)]
      omega
    · have ih := cntB_upd (f := f) (g := g) (show q < n by omega) fun k hk hk2 => e k (by omega) hk2
      rw [e n (by omega) (by omega)]
      omega
theorem cntB_perm {p : Nat → Bool} : ∀ {n : Nat} {o : Nat → Nat}, (∀ j, j < n → o j < n) → (∀ i j, i < n → j < n → o i = o j → i = j) → cntB (fun k => p (o k)) n = cntB p n
  | 0, _, _, _ => rfl
  | n + 1, o, h1, h2 => by
    obtain ⟨q, hq, eq⟩ := pigeon h1 h2 n (by omega)
    by_cases e : q = n
    · unfold cntB
      rw [cntB_perm (n := n) (o := o) (fun j hj => by
        have := h1 j (by omega)
        have : o j ≠ n := fun w => by have := h2 j q (by omega) (by omega) (w.trans eq.symm); omega
        omega) (fun i j hi hj => h2 i j (by omega) (by omega)), ← e, eq, e]
    · have ih := cntB_perm (p := p) (n := n) (o := fun k => if k = q then o n else o k) (fun j hj => by
        show (if j = q then o n else o j) < n
        have a1 := h1 n (by omega)
        have a2 := h1 j (by omega)
        have a3 : o n ≠ n := fun w => by have := h2 n q (by omega) (by omega) (w.trans eq.symm); omega
        split
        · omega
        · have : o j ≠ n := fun w => by have := h2 j q (by omega) (by omega) (w.trans eq.symm); omega
          omega) (fun i j hi hj w => by
        have w : (if i = q then o n else o i) = (if j = q then o n else o j) := w
        split at w <;> split at w
        · omega
        · have := h2 _ _ (by omega) (by omega) w; omega
        · have := h2 _ _ (by omega) (by omega) w; omega
        · exact h2 _ _ (by omega) (by omega) w)
      have up := cntB_upd (f := fun k => p (o k)) (g := fun k => p (if k = q then o n else o k)) (show q < n by omega) (fun k hk hk2 => by
        show p (o k) = p (if k = q then o n else o k)
        rw [if_neg hk2])
      unfold cntB
      rw [ih] at up
      have up : cntB (fun k => p (o k)) n + (if p (if q = q then o n else o q) then 1 else 0) = cntB p n + (if p (o q) then 1 else 0) := up
      rw [if_pos rfl, eq] at up
      exact up
section CALLS9
variable {I0 I I2 I3 I5 : Nat → Nat → Int32} {J J2 : Nat → Nat → Int64} {L : hL} {x n sn dn ac fi tp sd c : Nat} {t : tl} {F : Int32 → hp → Prop} {G : hp → Prop} {N : Nat → hp → Prop} {X : Nat → hp → Prop} {d e z l : Nat} {ex : Bool}
--facts LK_ hK, LM_ hK.m, LB_ hK.b
theorem P_loss {p1 p2 : Int32} (hK : LK L x) (h : SX I0 I x n sn dn ac fi tp sd) : PR I0 L x 123 266 1 0 d e [.int p1, .int p2] I J z l ex := by
  have hn := h.n10
  have hs4 := h.i.2.1.2
  have hd20 := h.i.2.2.1.2
  have hol := BI_or h.i
  obtain ⟨sh, hs3, hsh⟩ := h.v.2.2.2.2
  have m2 : I (x + 271 + 1) 2 = nI sh := h.r.1.2.2.1.trans hsh
  refine e123 (t123_0 ?_)
  simp (disch := omega) only [vpT, nI_leI, nI_ltI, nI_eq, nleT, nleF, nltT, nltF, neqT, neqF, nI_add, pk_mul, subN, divN, nI_clamp, mI1, wrH, wrM1, wrM2, wrowH, wrowM, bI0, bI1, kIi, kVi, kRi, kLi, kIx, kVx, Option.some.injEq, exists_eq_left', true_and, and_true, true_implies, false_implies, implies_true, not_true_eq_false, not_false_eq_true, true_or, or_true, false_or, or_false, forall_eq, iteT, iteF, LK_ hK, LM_ hK.m, LB_ hK.b, h.n0]
  refine sp_checkElement (fun q => Or.inl ⟨rfl, (by unfold NE9; decide), I, J, rfl, (by first | exact h.2.2.2.2 | exact fun a ha => (em a (Or.inr ha)).trans (h.2.2.2.2 a ha) | exact fun a ha => (em2 a (Or.inr ha)).trans (h.2.2.2.2 a ha) | exact fun a ha => (hs a (by omega)).trans (h.2.2.2.2 a ha) | exact fun a ha => (wrM1 (by omega)).trans ((em a (Or.inr ha)).trans (h.2.2.2.2 a ha)) | exact fun a ha => (e3 a (by omega)).trans ((em a (Or.inr ha)).trans (h.2.2.2.2 a ha)) | exact fun a ha => (cs a (by omega) (by omega)).trans (h.2.2.2.2 a ha) | exact fun a ha => (hs2 a (by omega)).trans (h.2.2.2.2 a ha) | exact fun a ha => (e3 a (by omega) (by omega)).trans (h.2.2.2.2 a ha) | exact fun a ha => (e3 a (by omega) (by omega) (by omega) (by omega)).trans (h.2.2.2.2 a ha) | exact fun a ha => (hs5 a (by omega)).trans ((hs4' a (by omega)).trans ((hs3' a (by omega)).trans ((hs2 a (by omega)).trans (h.2.2.2.2 a ha)))) | (intro a ha; (try rw [wrM1 (by omega)]); (try rw [hs6 a (by omega)]); (try rw [hs5 a (by omega)]); (try rw [e5 a (by omega)]); (try rw [hs4 a (by omega)]); (try rw [e4 a (by omega)]); (try rw [hs3 a (by omega)]); (try rw [e3 a (by omega)]); (try rw [wrM1 (by omega)]); (try rw [hs2 a (by omega)]); (try rw [e2 a (by omega)]); (try rw [em2 a (Or.inr ha)]); (try rw [cs a (by omega) (by omega)]); (try rw [hs1 a (by omega)]); (try rw [hs a (by omega)]); (try rw [em a (Or.inr ha)]); exact h.2.2.2.2 a ha)), fun J2 => e266 (t266_0 ?_)⟩) (fun q1 q2 => t123_14 ?_)
  · simp (disch := omega) only [vpT, nI_leI, nI_ltI, nI_eq, nleT, nleF, nltT, nltF, neqT, neqF, nI_add, pk_mul, subN, divN, nI_clamp, mI1, wrH, wrM1, wrM2, wrowH, wrowM, bI0, bI1, kIi, kVi, kRi, kLi, kIx, kVx, Option.some.injEq, exists_eq_left', true_and, and_true, true_implies, false_implies, implies_true, not_true_eq_false, not_false_eq_true, true_or, or_true, false_or, or_false, forall_eq, iteT, iteF, LK_ hK, LM_ hK.m, LB_ hK.b]
    refine mp_isCraftF hK.m (by rw [wrM1 (by omega)]; exact h.m0) hn q (t266_11 ?_)
    simp (disch := omega) only [vpT, nI_leI, nI_ltI, nI_eq, nleT, nleF, nltT, nltF, neqT, neqF, nI_add, pk_mul, subN, divN, nI_clamp, mI1, wrH, wrM1, wrM2, wrowH, wrowM, bI0, bI1, kIi, kVi, kRi, kLi, kIx, kVx, Option.some.injEq, exists_eq_left', true_and, and_true, true_implies, false_implies, implies_true, not_true_eq_false, not_false_eq_true, true_or, or_true, false_or, or_false, forall_eq, iteT, iteF, LK_ hK, LM_ hK.m, LB_ hK.b]
    refine mp_rightF hK.m (wrH rfl rfl) (by decide) (by decide) (t266_15 ?_)
    simp (disch := omega) only [vpT, nI_leI, nI_ltI, nI_eq, nleT, nleF, nltT, nltF, neqT, neqF, nI_add, pk_mul, subN, divN, nI_clamp, mI1, wrH, wrM1, wrM2, wrowH, wrowM, bI0, bI1, kIi, kVi, kRi, kLi, kIx, kVx, Option.some.injEq, exists_eq_left', true_and, and_true, true_implies, false_implies, implies_true, not_true_eq_false, not_false_eq_true, true_or, or_true, false_or, or_false, forall_eq, iteT, iteF, LK_ hK, LM_ hK.m, LB_ hK.b]
    exact ff h same.rf rfl
  have pre : ∀ I3 J2 t F, (∀ a, x + 271 ≤ a ∨ a < x → I3 a = I a) → Wp (cal (e + 39)) kc_266 [] F (15, [some (.ref (x + 271)), some (.int p1), some (.int p2), none, none], [.int (nI 1)], (L, wr I3 (x + 271) 0 (nI 0), J2, t)) → cal (e + 40) 266 [.ref (x + 271), .int p1, .int p2] (L, I3, J2, t) F := by
    intro I3 J2 t F em kk
    refine e266 (t266_0 ?_)
    simp (disch := omega) only [vpT, nI_leI, nI_ltI, nI_eq, nleT, nleF, nltT, nltF, neqT, neqF, nI_add, pk_mul, subN, divN, nI_clamp, mI1, wrH, wrM1, wrM2, wrowH, wrowM, bI0, bI1, kIi, kVi, kRi, kLi, kIx, kVx, Option.some.injEq, exists_eq_left', true_and, and_true, true_implies, false_implies, implies_true, not_true_eq_false, not_false_eq_true, true_or, or_true, false_or, or_false, forall_eq, iteT, iteF, LK_ hK, LM_ hK.m, LB_ hK.b]
    refine mp_isCraftT hK.m (by rw [wrM1 (by omega), em _ (by omega)]; exact h.m0) hn ⟨q1, q2⟩ (t266_11 ?_)
    simp (disch := omega) only [vpT, nI_leI, nI_ltI, nI_eq, nleT, nleF, nltT, nltF, neqT, neqF, nI_add, pk_mul, subN, divN, nI_clamp, mI1, wrH, wrM1, wrM2, wrowH, wrowM, bI0, bI1, kIi, kVi, kRi, kLi, kIx, kVx, Option.some.injEq, exists_eq_left', true_and, and_true, true_implies, false_implies, implies_true, not_true_eq_false, not_false_eq_true, true_or, or_true, false_or, or_false, forall_eq, iteT, iteF, LK_ hK, LM_ hK.m, LB_ hK.b]
    exact mp_rightT hK.m (wrH rfl rfl) kk
  refine sp_checkArgument (fun q => Or.inr ⟨rfl, (by unfold NE9; decide), I, J, rfl, (by first | exact h.2.2.2.2 | exact fun a ha => (em a (Or.inr ha)).trans (h.2.2.2.2 a ha) | exact fun a ha => (em2 a (Or.inr ha)).trans (h.2.2.2.2 a ha) | exact fun a ha => (hs a (by omega)).trans (h.2.2.2.2 a ha) | exact fun a ha => (wrM1 (by omega)).trans ((em a (Or.inr ha)).trans (h.2.2.2.2 a ha)) | exact fun a ha => (e3 a (by omega)).trans ((em a (Or.inr ha)).trans (h.2.2.2.2 a ha)) | exact fun a ha => (cs a (by omega) (by omega)).trans (h.2.2.2.2 a ha) | exact fun a ha => (hs2 a (by omega)).trans (h.2.2.2.2 a ha) | exact fun a ha => (e3 a (by omega) (by omega)).trans (h.2.2.2.2 a ha) | exact fun a ha => (e3 a (by omega) (by omega) (by omega) (by omega)).trans (h.2.2.2.2 a ha) | exact fun a ha => (hs5 a (by omega)).trans ((hs4' a (by omega)).trans ((hs3' a (by omega)).trans ((hs2 a (by omega)).trans (h.2.2.2.2 a ha)))) | (intro a ha; (try rw [wrM1 (by omega)]); (try rw [hs6 a (by omega)]); (try rw [hs5 a (by omega)]); (try rw [e5 a (by omega)]); (try rw [hs4 a (by omega)]); (try rw [e4 a (by omega)]); (try rw [hs3 a (by omega)]); (try rw [e3 a (by omega)]); (try rw [wrM1 (by omega)]); (try rw [hs2 a (by omega)]); (try rw [e2 a (by omega)]); (try rw [em2 a (Or.inr ha)]); (try rw [cs a (by omega) (by omega)]); (try rw [hs1 a (by omega)]); (try rw [hs a (by omega)]); (try rw [em a (Or.inr ha)]); exact h.2.2.2.2 a ha)), fun J2 => pre _ _ _ _ (fun _ _ => rfl) (t266_15 ?_)⟩) (fun q5 q6 => t123_21 ?_)
  · simp (disch := omega) only [vpT, nI_leI, nI_ltI, nI_eq, nleT, nleF, nltT, nltF, neqT, neqF, nI_add, pk_mul, subN, divN, nI_clamp, mI1, wrH, wrM1, wrM2, wrowH, wrowM, bI0, bI1, kIi, kVi, kRi, kLi, kIx, kVx, Option.some.injEq, exists_eq_left', true_and, and_true, true_implies, false_implies, implies_true, not_true_eq_false, not_false_eq_true, true_or, or_true, false_or, or_false, forall_eq, iteT, iteF, LK_ hK, LM_ hK.m, LB_ hK.b]
    refine mp_inF (lo := nI 1) (hi := nI 99) rfl rfl q (t266_28 ?_)
    simp (disch := omega) only [vpT, nI_leI, nI_ltI, nI_eq, nleT, nleF, nltT, nltF, neqT, neqF, nI_add, pk_mul, subN, divN, nI_clamp, mI1, wrH, wrM1, wrM2, wrowH, wrowM, bI0, bI1, kIi, kVi, kRi, kLi, kIx, kVx, Option.some.injEq, exists_eq_left', true_and, and_true, true_implies, false_implies, implies_true, not_true_eq_false, not_false_eq_true, true_or, or_true, false_or, or_false, forall_eq, iteT, iteF, LK_ hK, LM_ hK.m, LB_ hK.b]
    refine mp_rightF hK.m (wrH rfl rfl) (by decide) (by decide) (t266_32 ?_)
    simp (disch := omega) only [vpT, nI_leI, nI_ltI, nI_eq, nleT, nleF, nltT, nltF, neqT, neqF, nI_add, pk_mul, subN, divN, nI_clamp, mI1, wrH, wrM1, wrM2, wrowH, wrowM, bI0, bI1, kIi, kVi, kRi, kLi, kIx, kVx, Option.some.injEq, exists_eq_left', true_and, and_true, true_implies, false_implies, implies_true, not_true_eq_false, not_false_eq_true, true_or, or_true, false_or, or_false, forall_eq, iteT, iteF, LK_ hK, LM_ hK.m, LB_ hK.b]
    exact ff h same.rf rfl
  obtain ⟨c, hc, rfl⟩ := i_lt (by omega) q1 q2
  obtain ⟨a, ha, hac⟩ := pigeon (fun j hj => (hol j hj).2) h.v.2.1 c hc
  obtain ⟨so, hso, eso⟩ := h.i.2.2.2.1 c hc
  have pre2 : ∀ I3 J2 t F, (∀ a, x + 271 ≤ a ∨ a < x → I3 a = I a) → Wp (cal (e + 39)) kc_266 [] F (43, [some (.ref (x + 271)), some (.int (nI c)), some (.int p2), none, none], [.int (nI so)], (L, wr I3 (x + 271) 0 (nI 0), J2, t)) → cal (e + 40) 266 [.ref (x + 271), .int (nI c), .int p2] (L, I3, J2, t) F := by
    intro I3 J2 t F em kk
    refine pre _ _ _ _ em (t266_15 ?_)
    simp (disch := omega) only [vpT, nI_leI, nI_ltI, nI_eq, nleT, nleF, nltT, nltF, neqT, neqF, nI_add, pk_mul, subN, divN, nI_clamp, mI1, wrH, wrM1, wrM2, wrowH, wrowM, bI0, bI1, kIi, kVi, kRi, kLi, kIx, kVx, Option.some.injEq, exists_eq_left', true_and, and_true, true_implies, false_implies, implies_true, not_true_eq_false, not_false_eq_true, true_or, or_true, false_or, or_false, forall_eq, iteT, iteF, LK_ hK, LM_ hK.m, LB_ hK.b]
    refine mp_inT (lo := nI 1) (hi := nI 99) rfl rfl ⟨q5, q6⟩ (t266_28 ?_)
    simp (disch := omega) only [vpT, nI_leI, nI_ltI, nI_eq, nleT, nleF, nltT, nltF, neqT, neqF, nI_add, pk_mul, subN, divN, nI_clamp, mI1, wrH, wrM1, wrM2, wrowH, wrowM, bI0, bI1, kIi, kVi, kRi, kLi, kIx, kVx, Option.some.injEq, exists_eq_left', true_and, and_true, true_implies, false_implies, implies_true, not_true_eq_false, not_false_eq_true, true_or, or_true, false_or, or_false, forall_eq, iteT, iteF, LK_ hK, LM_ hK.m, LB_ hK.b]
    refine mp_rightT hK.m (wrH rfl rfl) (t266_32 ?_)
    simp (disch := omega) only [vpT, nI_leI, nI_ltI, nI_eq, nleT, nleF, nltT, nltF, neqT, neqF, nI_add, pk_mul, subN, divN, nI_clamp, mI1, wrH, wrM1, wrM2, wrowH, wrowM, bI0, bI1, kIi, kVi, kRi, kLi, kIx, kVx, Option.some.injEq, exists_eq_left', true_and, and_true, true_implies, false_implies, implies_true, not_true_eq_false, not_false_eq_true, true_or, or_true, false_or, or_false, forall_eq, iteT, iteF, LK_ hK, LM_ hK.m, LB_ hK.b]
    refine mp_ofCraft (w := 0) hK.m (show c < 10 by omega) (by decide) ?_
    have : wr I3 (x + 271) 0 (nI 0) (x + 271 + 1) (6 + 4 * c + 0) = nI so := by rw [wrM1 (by omega), em _ (by omega)]; exact (h.r.2.1 c hc).1.trans eso
    rw [this]
    exact kk
  simp (disch := omega) only [vpT, nI_leI, nI_ltI, nI_eq, nleT, nleF, nltT, nltF, neqT, neqF, nI_add, pk_mul, subN, divN, nI_clamp, mI1, wrH, wrM1, wrM2, wrowH, wrowM, bI0, bI1, kIi, kVi, kRi, kLi, kIx, kVx, Option.some.injEq, exists_eq_left', true_and, and_true, true_implies, false_implies, implies_true, not_true_eq_false, not_false_eq_true, true_or, or_true, false_or, or_false, forall_eq, iteT, iteF, LK_ hK, LM_ hK.m, LB_ hK.b]
  refine sp_leaves (n := n) (sn := sn) (dn := dn) hK.b h.i hc (t123_32 ?_)
  by_cases hl : so % 2 = 1
  · have el : lvs1 (bd I (x + 1 + 2)) c = true := by unfold lvs1; rw [eso, nI_clamp (by omega)]; exact decide_eq_true hl
    rw [el, bI_t]
    simp (disch := omega) only [vpT, nI_leI, nI_ltI, nI_eq, nleT, nleF, nltT, nltF, neqT, neqF, nI_add, pk_mul, subN, divN, nI_clamp, mI1, wrH, wrM1, wrM2, wrowH, wrowM, bI0, bI1, kIi, kVi, kRi, kLi, kIx, kVx, Option.some.injEq, exists_eq_left', true_and, and_true, true_implies, false_implies, implies_true, not_true_eq_false, not_false_eq_true, true_or, or_true, false_or, or_false, forall_eq, iteT, iteF, LK_ hK, LM_ hK.m, LB_ hK.b]
    refine ⟨I, J, rfl, (by first | exact h.2.2.2.2 | exact fun a ha => (em a (Or.inr ha)).trans (h.2.2.2.2 a ha) | exact fun a ha => (em2 a (Or.inr ha)).trans (h.2.2.2.2 a ha) | exact fun a ha => (hs a (by omega)).trans (h.2.2.2.2 a ha) | exact fun a ha => (wrM1 (by omega)).trans ((em a (Or.inr ha)).trans (h.2.2.2.2 a ha)) | exact fun a ha => (e3 a (by omega)).trans ((em a (Or.inr ha)).trans (h.2.2.2.2 a ha)) | exact fun a ha => (cs a (by omega) (by omega)).trans (h.2.2.2.2 a ha) | exact fun a ha => (hs2 a (by omega)).trans (h.2.2.2.2 a ha) | exact fun a ha => (e3 a (by omega) (by omega)).trans (h.2.2.2.2 a ha) | exact fun a ha => (e3 a (by omega) (by omega) (by omega) (by omega)).trans (h.2.2.2.2 a ha) | exact fun a ha => (hs5 a (by omega)).trans ((hs4' a (by omega)).trans ((hs3' a (by omega)).trans ((hs2 a (by omega)).trans (h.2.2.2.2 a ha)))) | (intro a ha; (try rw [wrM1 (by omega)]); (try rw [hs6 a (by omega)]); (try rw [hs5 a (by omega)]); (try rw [e5 a (by omega)]); (try rw [hs4 a (by omega)]); (try rw [e4 a (by omega)]); (try rw [hs3 a (by omega)]); (try rw [e3 a (by omega)]); (try rw [wrM1 (by omega)]); (try rw [hs2 a (by omega)]); (try rw [e2 a (by omega)]); (try rw [em2 a (Or.inr ha)]); (try rw [cs a (by omega) (by omega)]); (try rw [hs1 a (by omega)]); (try rw [hs a (by omega)]); (try rw [em a (Or.inr ha)]); exact h.2.2.2.2 a ha)), fun J2 => pre2 _ _ _ _ (fun _ _ => rfl) (t266_43 ?_)⟩
    simp (disch := omega) only [vpT, nI_leI, nI_ltI, nI_eq, nleT, nleF, nltT, nltF, neqT, neqF, nI_add, pk_mul, subN, divN, nI_clamp, mI1, wrH, wrM1, wrM2, wrowH, wrowM, bI0, bI1, kIi, kVi, kRi, kLi, kIx, kVx, Option.some.injEq, exists_eq_left', true_and, and_true, true_implies, false_implies, implies_true, not_true_eq_false, not_false_eq_true, true_or, or_true, false_or, or_false, forall_eq, iteT, iteF, LK_ hK, LM_ hK.m, LB_ hK.b, remN, hl]
    exact f1 h same.rf rfl
  have el : lvs1 (bd I (x + 1 + 2)) c = false := by unfold lvs1; rw [eso, nI_clamp (by omega)]; exact decide_eq_false hl
  rw [el, bI_f]
  simp (disch := omega) only [vpT, nI_leI, nI_ltI, nI_eq, nleT, nleF, nltT, nltF, neqT, neqF, nI_add, pk_mul, subN, divN, nI_clamp, mI1, wrH, wrM1, wrM2, wrowH, wrowM, bI0, bI1, kIi, kVi, kRi, kLi, kIx, kVx, Option.some.injEq, exists_eq_left', true_and, and_true, true_implies, false_implies, implies_true, not_true_eq_false, not_false_eq_true, true_or, or_true, false_or, or_false, forall_eq, iteT, iteF, LK_ hK, LM_ hK.m, LB_ hK.b]
  obtain ⟨v, hv, rfl⟩ := i_le (by omega) (Int32.le_trans (show nI 0 ≤ nI 1 by decide) q5) q6
  refine sp_bestCost (T := 1999) hK.r h.i h.v.2.2.1 h.v.2.2.2.1 h.v.2.1 hsh hs3 fun I2 v1 hs2 hF => t123_46 ?_
  have em2 : ∀ a, x + 271 ≤ a ∨ a < x → I2 a = I a := fun a ha => hs2 a (by omega)
  -- the model, with any board that says the same
  have mod : ∀ (I3 : Nat → Nat → Int32) (S1 S2 : BS), same I I3 (scr x) → I3 (x + 271) = I (x + 271) → I3 (x + 271 + 1) = I (x + 271 + 1) → VL S1 n sn dn → Rel (I (x + 271 + 1)) S1 n sn dn → ordN S1 a = c → bF S1 11 = nI sh → Snd S1 S2 n c a (nI v) → ∀ r, (v1 = -1 → r = -1000000) → (¬ v1 = -1 → ∃ v2 fr, Fnd S2 n (frz S2 n) sh (nI 0) v2 fr ∧ r = if v2 = -1 then -1000000 else v2 - v1) → ∀ J2, cal (e + 40) 266 [.ref (x + 271), .int (nI c), .int (nI v)] (L, I3, J2, z, l, ex) (kI (fun r2 h3 => r2 = r ∧ FN I0 L x 0 J2 (z, l, ex) h3) (fun _ _ => False)) := by
    intro I3 S1 S2 hs0 em0 em1 hV1 hR1 hc1 hsh1 hSnd r w1 w2 J2
    have hol1 := BI_or hV1.1.1
    have hV2 := hV1.snd ha hc1 hv hSnd
    have hol2 := BI_or hV2.1.1
    have hsh2 : bF S2 11 = nI sh := by rw [hSnd.1]; exact hsh1
    have em : ∀ b, x + 271 ≤ b → b = x + 271 ∨ b = x + 271 + 1 → I3 b = I b := fun b _ hb => by rcases hb with rfl | rfl <;> assumption
    have pre3 : Wp (cal (e + 39)) kc_266 [] (kI (fun r2 h3 => r2 = r ∧ FN I0 L x 0 J2 (z, l, ex) h3) (fun _ _ => False)) (43, [some (.ref (x + 271)), some (.int (nI c)), some (.int (nI v)), none, none], [.int (nI so)], (L, wr I3 (x + 271) 0 (nI 0), J2, z, l, ex)) := by
      refine t266_43 ?_
      have m2' : I3 (x + 271 + 1) 2 = nI sh := by rw [em1]; exact m2
      simp (disch := omega) only [vpT, nI_leI, nI_ltI, nI_eq, nleT, nleF, nltT, nltF, neqT, neqF, nI_add, pk_mul, subN, divN, nI_clamp, mI1, wrH, wrM1, wrM2, wrowH, wrowM, bI0, bI1, kIi, kVi, kRi, kLi, kIx, kVx, Option.some.injEq, exists_eq_left', true_and, and_true, true_implies, false_implies, implies_true, not_true_eq_false, not_false_eq_true, true_or, or_true, false_or, or_false, forall_eq, iteT, iteF, LK_ hK, LM_ hK.m, LB_ hK.b, remN, hl, m2']
      refine mp_finds (S := bd I (x + 1 + 2)) (n := n) (sn := sn) (dn := dn) (T := 1999) (sh := sh) (hd := true) (y := nI 0) hK.m (by rw [wrM1 (by omega), em1]; exact h.r) h.i h.v.2.2.1 hs3 hol fun I4 hs4' hf4 hB4 _ => t266_65 ?_
      obtain ⟨g0, hB4⟩ := hB4 rfl
      have r4 : I4 (x + 271 + 1) = I (x + 271 + 1) := by rw [hs4' _ (by omega), wrM1 (by omega), em1]
      simp (disch := omega) only [vpT, nI_leI, nI_ltI, nI_eq, nleT, nleF, nltT, nltF, neqT, neqF, nI_add, pk_mul, subN, divN, nI_clamp, mI1, wrH, wrM1, wrM2, wrowH, wrowM, bI0, bI1, kIi, kVi, kRi, kLi, kIx, kVx, Option.some.injEq, exists_eq_left', true_and, and_true, true_implies, false_implies, implies_true, not_true_eq_false, not_false_eq_true, true_or, or_true, false_or, or_false, forall_eq, iteT, iteF, LK_ hK, LM_ hK.m, LB_ hK.b]
      refine mp_told hK.m (t266_69 ?_)
      rw [fs_told h.i h.v.2.2.1 hF hB4]
      simp (disch := omega) only [vpT, nI_leI, nI_ltI, nI_eq, nleT, nleF, nltT, nltF, neqT, neqF, nI_add, pk_mul, subN, divN, nI_clamp, mI1, wrH, wrM1, wrM2, wrowH, wrowM, bI0, bI1, kIi, kVi, kRi, kLi, kIx, kVx, Option.some.injEq, exists_eq_left', true_and, and_true, true_implies, false_implies, implies_true, not_true_eq_false, not_false_eq_true, true_or, or_true, false_or, or_false, forall_eq, iteT, iteF, LK_ hK, LM_ hK.m, LB_ hK.b]
      refine mp_laysAside hK.m fun I5 hs5 ha5 => t266_74 ?_
      have r5 : I5 (x + 271 + 1) = I (x + 271 + 1) := by rw [hs5 _ (by omega), r4]
      simp (disch := omega) only [vpT, nI_leI, nI_ltI, nI_eq, nleT, nleF, nltT, nltF, neqT, neqF, nI_add, pk_mul, subN, divN, nI_clamp, mI1, wrH, wrM1, wrM2, wrowH, wrowM, bI0, bI1, kIi, kVi, kRi, kLi, kIx, kVx, Option.some.injEq, exists_eq_left', true_and, and_true, true_implies, false_implies, implies_true, not_true_eq_false, not_false_eq_true, true_or, or_true, false_or, or_false, forall_eq, iteT, iteF, LK_ hK, LM_ hK.m, LB_ hK.b]
      refine mp_goesAround (S := S1) (S' := S2) (n := n) (sn := sn) (dn := dn) (p := a) hK.m (by rw [r5]; exact hR1) hV1.1.1 hV1.1.2.1 ha hc1 hSnd fun I6 hs6 hR6 => t266_80 ?_
      have m6 : I6 (x + 271 + 1) 2 = nI sh := hR6.1.2.2.1.trans hsh2
      simp (disch := omega) only [vpT, nI_leI, nI_ltI, nI_eq, nleT, nleF, nltT, nltF, neqT, neqF, nI_add, pk_mul, subN, divN, nI_clamp, mI1, wrH, wrM1, wrM2, wrowH, wrowM, bI0, bI1, kIi, kVi, kRi, kLi, kIx, kVx, Option.some.injEq, exists_eq_left', true_and, and_true, true_implies, false_implies, implies_true, not_true_eq_false, not_false_eq_true, true_or, or_true, false_or, or_false, forall_eq, iteT, iteF, LK_ hK, LM_ hK.m, LB_ hK.b, m6]
      refine mp_finds (S := S2) (n := n) (sn := sn) (dn := dn) (T := 1999) (sh := sh) (hd := true) (y := nI 0) hK.m hR6 hV2.1.1 hV2.1.2.2.1 hs3 hol2 fun I7 hs7 hf7 hB7 _ => t266_92 ?_
      obtain ⟨g7, hB7⟩ := hB7 rfl
      simp (disch := omega) only [vpT, nI_leI, nI_ltI, nI_eq, nleT, nleF, nltT, nltF, neqT, neqF, nI_add, pk_mul, subN, divN, nI_clamp, mI1, wrH, wrM1, wrM2, wrowH, wrowM, bI0, bI1, kIi, kVi, kRi, kLi, kIx, kVx, Option.some.injEq, exists_eq_left', true_and, and_true, true_implies, false_implies, implies_true, not_true_eq_false, not_false_eq_true, true_or, or_true, false_or, or_false, forall_eq, iteT, iteF, LK_ hK, LM_ hK.m, LB_ hK.b]
      refine mp_told hK.m (t266_96 ?_)
      generalize hv2 : (if I7 (x + 271) 20 = nI 1000000000 then (-1 : Int32) else I7 (x + 271) 20) = u
      simp (disch := omega) only [vpT, nI_leI, nI_ltI, nI_eq, nleT, nleF, nltT, nltF, neqT, neqF, nI_add, pk_mul, subN, divN, nI_clamp, mI1, wrH, wrM1, wrM2, wrowH, wrowM, bI0, bI1, kIi, kVi, kRi, kLi, kIx, kVx, Option.some.injEq, exists_eq_left', true_and, and_true, true_implies, false_implies, implies_true, not_true_eq_false, not_false_eq_true, true_or, or_true, false_or, or_false, forall_eq, iteT, iteF, LK_ hK, LM_ hK.m, LB_ hK.b]
      refine mp_comesBack hK.m fun I8 hs8 ha8 => t266_102 ?_
      have fin : FN I0 L x 0 J2 (z, l, ex) (L, I8, J2, z, l, ex) := by
        refine f3 h (fun b hb => ?_) (fun j hj => ?_) (fun j hj => ?_) ?_
        · rw [hs8 b (by omega), hs7 b (by omega), hs6 b (by omega), hs5 b (by omega), hs4' b (by omega), wrM1 (by omega)]
          exact hs0 b (by omega)
        · rw [ha8 j hj, hs7 _ (by omega), hs6 _ (by omega), ha5 j hj, r4]
        · rw [hs8 _ (by omega), hf7 j (by omega), hs6 _ (by omega), hs5 _ (by omega), hf4 j (by omega), wrM2 (by omega), em0]
        · rw [hs8 _ (by omega), hf7 0 (by omega), hs6 _ (by omega), hs5 _ (by omega), hf4 0 (by omega)]
          exact wrH rfl rfl
      by_cases e1 : v1 = -1
      · refine ⟨fun _ => ?_, fun q => absurd e1 q⟩
        simp (disch := omega) only [vpT, nI_leI, nI_ltI, nI_eq, nleT, nleF, nltT, nltF, neqT, neqF, nI_add, pk_mul, subN, divN, nI_clamp, mI1, wrH, wrM1, wrM2, wrowH, wrowM, bI0, bI1, kIi, kVi, kRi, kLi, kIx, kVx, Option.some.injEq, exists_eq_left', true_and, and_true, true_implies, false_implies, implies_true, not_true_eq_false, not_false_eq_true, true_or, or_true, false_or, or_false, forall_eq, iteT, iteF, LK_ hK, LM_ hK.m, LB_ hK.b]
        exact ⟨(w1 e1).symm, fin⟩
      · refine ⟨fun q => absurd q e1, fun _ => ?_⟩
        obtain ⟨v2, fr2, hF2, er⟩ := w2 e1
        rw [fs_told hV2.1.1 hV2.1.2.2.1 hF2 hB7] at hv2
        subst hv2
        by_cases e2 : v2 = -1
        · refine ⟨fun q => absurd e2 q, fun _ => ?_⟩
          simp (disch := omega) only [vpT, nI_leI, nI_ltI, nI_eq, nleT, nleF, nltT, nltF, neqT, neqF, nI_add, pk_mul, subN, divN, nI_clamp, mI1, wrH, wrM1, wrM2, wrowH, wrowM, bI0, bI1, kIi, kVi, kRi, kLi, kIx, kVx, Option.some.injEq, exists_eq_left', true_and, and_true, true_implies, false_implies, implies_true, not_true_eq_false, not_false_eq_true, true_or, or_true, false_or, or_false, forall_eq, iteT, iteF, LK_ hK, LM_ hK.m, LB_ hK.b]
          exact ⟨by rw [er, if_pos e2], fin⟩
        · refine ⟨fun _ => ?_, fun q => absurd q e2⟩
          simp (disch := omega) only [vpT, nI_leI, nI_ltI, nI_eq, nleT, nleF, nltT, nltF, neqT, neqF, nI_add, pk_mul, subN, divN, nI_clamp, mI1, wrH, wrM1, wrM2, wrowH, wrowM, bI0, bI1, kIi, kVi, kRi, kLi, kIx, kVx, Option.some.injEq, exists_eq_left', true_and, and_true, true_implies, false_implies, implies_true, not_true_eq_false, not_false_eq_true, true_or, or_true, false_or, or_false, forall_eq, iteT, iteF, LK_ hK, LM_ hK.m, LB_ hK.b]
          exact ⟨by rw [er, if_neg e2], fin⟩
    refine e266 (t266_0 ?_)
    simp (disch := omega) only [vpT, nI_leI, nI_ltI, nI_eq, nleT, nleF, nltT, nltF, neqT, neqF, nI_add, pk_mul, subN, divN, nI_clamp, mI1, wrH, wrM1, wrM2, wrowH, wrowM, bI0, bI1, kIi, kVi, kRi, kLi, kIx, kVx, Option.some.injEq, exists_eq_left', true_and, and_true, true_implies, false_implies, implies_true, not_true_eq_false, not_false_eq_true, true_or, or_true, false_or, or_false, forall_eq, iteT, iteF, LK_ hK, LM_ hK.m, LB_ hK.b]
    refine mp_isCraftT hK.m (by rw [wrM1 (by omega), em1]; exact h.m0) hn ⟨q1, q2⟩ (t266_11 ?_)
    simp (disch := omega) only [vpT, nI_leI, nI_ltI, nI_eq, nleT, nleF, nltT, nltF, neqT, neqF, nI_add, pk_mul, subN, divN, nI_clamp, mI1, wrH, wrM1, wrM2, wrowH, wrowM, bI0, bI1, kIi, kVi, kRi, kLi, kIx, kVx, Option.some.injEq, exists_eq_left', true_and, and_true, true_implies, false_implies, implies_true, not_true_eq_false, not_false_eq_true, true_or, or_true, false_or, or_false, forall_eq, iteT, iteF, LK_ hK, LM_ hK.m, LB_ hK.b]
    refine mp_rightT hK.m (wrH rfl rfl) (t266_15 ?_)
    simp (disch := omega) only [vpT, nI_leI, nI_ltI, nI_eq, nleT, nleF, nltT, nltF, neqT, neqF, nI_add, pk_mul, subN, divN, nI_clamp, mI1, wrH, wrM1, wrM2, wrowH, wrowM, bI0, bI1, kIi, kVi, kRi, kLi, kIx, kVx, Option.some.injEq, exists_eq_left', true_and, and_true, true_implies, false_implies, implies_true, not_true_eq_false, not_false_eq_true, true_or, or_true, false_or, or_false, forall_eq, iteT, iteF, LK_ hK, LM_ hK.m, LB_ hK.b]
    refine mp_inT (lo := nI 1) (hi := nI 99) rfl rfl ⟨q5, q6⟩ (t266_28 ?_)
    simp (disch := omega) only [vpT, nI_leI, nI_ltI, nI_eq, nleT, nleF, nltT, nltF, neqT, neqF, nI_add, pk_mul, subN, divN, nI_clamp, mI1, wrH, wrM1, wrM2, wrowH, wrowM, bI0, bI1, kIi, kVi, kRi, kLi, kIx, kVx, Option.some.injEq, exists_eq_left', true_and, and_true, true_implies, false_implies, implies_true, not_true_eq_false, not_false_eq_true, true_or, or_true, false_or, or_false, forall_eq, iteT, iteF, LK_ hK, LM_ hK.m, LB_ hK.b]
    refine mp_rightT hK.m (wrH rfl rfl) (t266_32 ?_)
    simp (disch := omega) only [vpT, nI_leI, nI_ltI, nI_eq, nleT, nleF, nltT, nltF, neqT, neqF, nI_add, pk_mul, subN, divN, nI_clamp, mI1, wrH, wrM1, wrM2, wrowH, wrowM, bI0, bI1, kIi, kVi, kRi, kLi, kIx, kVx, Option.some.injEq, exists_eq_left', true_and, and_true, true_implies, false_implies, implies_true, not_true_eq_false, not_false_eq_true, true_or, or_true, false_or, or_false, forall_eq, iteT, iteF, LK_ hK, LM_ hK.m, LB_ hK.b]
    refine mp_ofCraft (w := 0) hK.m (show c < 10 by omega) (by decide) ?_
    have : wr I3 (x + 271) 0 (nI 0) (x + 271 + 1) (6 + 4 * c + 0) = nI so := by rw [wrM1 (by omega), em1]; exact (h.r.2.1 c hc).1.trans eso
    rw [this]
    exact pre3
  by_cases e1 : v1 = -1
  · refine ⟨fun q => absurd e1 q, fun _ => ?_⟩
    simp (disch := omega) only [vpT, nI_leI, nI_ltI, nI_eq, nleT, nleF, nltT, nltF, neqT, neqF, nI_add, pk_mul, subN, divN, nI_clamp, mI1, wrH, wrM1, wrM2, wrowH, wrowM, bI0, bI1, kIi, kVi, kRi, kLi, kIx, kVx, Option.some.injEq, exists_eq_left', true_and, and_true, true_implies, false_implies, implies_true, not_true_eq_false, not_false_eq_true, true_or, or_true, false_or, or_false, forall_eq, iteT, iteF, LK_ hK, LM_ hK.m, LB_ hK.b]
    obtain ⟨S2, hS2⟩ := Snd_ex (S := bd I (x + 1 + 2)) (n := n) (c := c) (p := a) (x := nI v)
    exact ⟨I2, J, rfl, (by first | exact h.2.2.2.2 | exact fun a ha => (em a (Or.inr ha)).trans (h.2.2.2.2 a ha) | exact fun a ha => (em2 a (Or.inr ha)).trans (h.2.2.2.2 a ha) | exact fun a ha => (hs a (by omega)).trans (h.2.2.2.2 a ha) | exact fun a ha => (wrM1 (by omega)).trans ((em a (Or.inr ha)).trans (h.2.2.2.2 a ha)) | exact fun a ha => (e3 a (by omega)).trans ((em a (Or.inr ha)).trans (h.2.2.2.2 a ha)) | exact fun a ha => (cs a (by omega) (by omega)).trans (h.2.2.2.2 a ha) | exact fun a ha => (hs2 a (by omega)).trans (h.2.2.2.2 a ha) | exact fun a ha => (e3 a (by omega) (by omega)).trans (h.2.2.2.2 a ha) | exact fun a ha => (e3 a (by omega) (by omega) (by omega) (by omega)).trans (h.2.2.2.2 a ha) | exact fun a ha => (hs5 a (by omega)).trans ((hs4' a (by omega)).trans ((hs3' a (by omega)).trans ((hs2 a (by omega)).trans (h.2.2.2.2 a ha)))) | (intro a ha; (try rw [wrM1 (by omega)]); (try rw [hs6 a (by omega)]); (try rw [hs5 a (by omega)]); (try rw [e5 a (by omega)]); (try rw [hs4 a (by omega)]); (try rw [e4 a (by omega)]); (try rw [hs3 a (by omega)]); (try rw [e3 a (by omega)]); (try rw [wrM1 (by omega)]); (try rw [hs2 a (by omega)]); (try rw [e2 a (by omega)]); (try rw [em2 a (Or.inr ha)]); (try rw [cs a (by omega) (by omega)]); (try rw [hs1 a (by omega)]); (try rw [hs a (by omega)]); (try rw [em a (Or.inr ha)]); exact h.2.2.2.2 a ha)), mod I2 (bd I (x + 1 + 2)) S2 (hs2.up fun a ha => by omega) (em2 _ (by omega)) (em2 _ (by omega)) h.1.1 h.r hac hsh hS2 _ (fun _ => rfl) (fun q => absurd e1 q)⟩
  · refine ⟨fun _ => ?_, fun q => absurd q e1⟩
    simp (disch := omega) only [vpT, nI_leI, nI_ltI, nI_eq, nleT, nleF, nltT, nltF, neqT, neqF, nI_add, pk_mul, subN, divN, nI_clamp, mI1, wrH, wrM1, wrM2, wrowH, wrowM, bI0, bI1, kIi, kVi, kRi, kLi, kIx, kVx, Option.some.injEq, exists_eq_left', true_and, and_true, true_implies, false_implies, implies_true, not_true_eq_false, not_false_eq_true, true_or, or_true, false_or, or_false, forall_eq, iteT, iteF, LK_ hK, LM_ hK.m, LB_ hK.b]
    refine sp_paper hK fun I3 hs3' hA3 => t123_59 ?_
    have eb2 : bd I2 (x + 1 + 2) = bd I (x + 1 + 2) := hs2.bd fun a r1 r2 => by omega
    rw [eb2] at hA3
    have hV3 := h.1.1.ag hA3
    have hR3 := h.r.ag hn hs4 hd20 hA3
    have hc3 : ordN (bd I3 (x + 28 + 2)) a = c := by
      rw [← hac]
      unfold ordN
      rw [(hA3.2.1 a (by omega)).2.2.2.2.2]
    have hsh3 : bF (bd I3 (x + 28 + 2)) 11 = nI sh := hA3.1.2.2.1.trans hsh
    simp (disch := omega) only [vpT, nI_leI, nI_ltI, nI_eq, nleT, nleF, nltT, nltF, neqT, neqF, nI_add, pk_mul, subN, divN, nI_clamp, mI1, wrH, wrM1, wrM2, wrowH, wrowM, bI0, bI1, kIi, kVi, kRi, kLi, kIx, kVx, Option.some.injEq, exists_eq_left', true_and, and_true, true_implies, false_implies, implies_true, not_true_eq_false, not_false_eq_true, true_or, or_true, false_or, or_false, forall_eq, iteT, iteF, LK_ hK, LM_ hK.m, LB_ hK.b]
    refine sp_sendAround (n := n) (sn := sn) (dn := dn) (p := a) hK.p hV3.1.1 hV3.1.2.1 ha hc3 fun I4 hs4' hS4 => t123_64 ?_
    have hV4 := hV3.snd ha hc3 hv hS4
    have hsh4 : bF (bd I4 (x + 28 + 2)) 11 = nI sh := by rw [hS4.1]; exact hsh3
    simp (disch := omega) only [vpT, nI_leI, nI_ltI, nI_eq, nleT, nleF, nltT, nltF, neqT, neqF, nI_add, pk_mul, subN, divN, nI_clamp, mI1, wrH, wrM1, wrM2, wrowH, wrowM, bI0, bI1, kIi, kVi, kRi, kLi, kIx, kVx, Option.some.injEq, exists_eq_left', true_and, and_true, true_implies, false_implies, implies_true, not_true_eq_false, not_false_eq_true, true_or, or_true, false_or, or_false, forall_eq, iteT, iteF, LK_ hK, LM_ hK.m, LB_ hK.b]
    refine sp_bestCost (T := 1999) (n := n) (sn := sn) (dn := dn) (sh := sh) hK.p hV4.1.1 hV4.1.2.2.1 hV4.1.2.2.2.1 hV4.1.2.1 hsh4 hs3 fun I5 v2 hs5 hF5 => t123_72 ?_
    have out : ∀ r, (r = if v2 = -1 then -1000000 else v2 - v1) → MD I0 L x 266 e [.int (nI c), .int (nI v)] (fun r2 => r2 = r) 0 (z, l, ex) (L, I5, J, z, l, ex) := fun r er =>
      ⟨I5, J, rfl, (by first | exact h.2.2.2.2 | exact fun a ha => (em a (Or.inr ha)).trans (h.2.2.2.2 a ha) | exact fun a ha => (em2 a (Or.inr ha)).trans (h.2.2.2.2 a ha) | exact fun a ha => (hs a (by omega)).trans (h.2.2.2.2 a ha) | exact fun a ha => (wrM1 (by omega)).trans ((em a (Or.inr ha)).trans (h.2.2.2.2 a ha)) | exact fun a ha => (e3 a (by omega)).trans ((em a (Or.inr ha)).trans (h.2.2.2.2 a ha)) | exact fun a ha => (cs a (by omega) (by omega)).trans (h.2.2.2.2 a ha) | exact fun a ha => (hs2 a (by omega)).trans (h.2.2.2.2 a ha) | exact fun a ha => (e3 a (by omega) (by omega)).trans (h.2.2.2.2 a ha) | exact fun a ha => (e3 a (by omega) (by omega) (by omega) (by omega)).trans (h.2.2.2.2 a ha) | exact fun a ha => (hs5 a (by omega)).trans ((hs4' a (by omega)).trans ((hs3' a (by omega)).trans ((hs2 a (by omega)).trans (h.2.2.2.2 a ha)))) | (intro a ha; (try rw [wrM1 (by omega)]); (try rw [hs6 a (by omega)]); (try rw [hs5 a (by omega)]); (try rw [e5 a (by omega)]); (try rw [hs4 a (by omega)]); (try rw [e4 a (by omega)]); (try rw [hs3 a (by omega)]); (try rw [e3 a (by omega)]); (try rw [wrM1 (by omega)]); (try rw [hs2 a (by omega)]); (try rw [e2 a (by omega)]); (try rw [em2 a (Or.inr ha)]); (try rw [cs a (by omega) (by omega)]); (try rw [hs1 a (by omega)]); (try rw [hs a (by omega)]); (try rw [em a (Or.inr ha)]); exact h.2.2.2.2 a ha)), mod I5 _ _ (fun b hb => by rw [hs5 b (by omega), hs4' b (by omega), hs3' b (by omega), hs2 b (by omega)]) (by rw [hs5 _ (by omega), hs4' _ (by omega), hs3' _ (by omega), hs2 _ (by omega)]) (by rw [hs5 _ (by omega), hs4' _ (by omega), hs3' _ (by omega), hs2 _ (by omega)]) hV3 hR3 hc3 hsh3 hS4 r (fun q => absurd q e1) (fun _ => ⟨v2, _, hF5, er⟩)⟩
    by_cases e2 : v2 = -1
    · refine ⟨fun q => absurd e2 q, fun _ => ?_⟩
      simp (disch := omega) only [vpT, nI_leI, nI_ltI, nI_eq, nleT, nleF, nltT, nltF, neqT, neqF, nI_add, pk_mul, subN, divN, nI_clamp, mI1, wrH, wrM1, wrM2, wrowH, wrowM, bI0, bI1, kIi, kVi, kRi, kLi, kIx, kVx, Option.some.injEq, exists_eq_left', true_and, and_true, true_implies, false_implies, implies_true, not_true_eq_false, not_false_eq_true, true_or, or_true, false_or, or_false, forall_eq, iteT, iteF, LK_ hK, LM_ hK.m, LB_ hK.b]
      exact out _ (by rw [if_pos e2])
    · refine ⟨fun _ => ?_, fun q => absurd q e2⟩
      simp (disch := omega) only [vpT, nI_leI, nI_ltI, nI_eq, nleT, nleF, nltT, nltF, neqT, neqF, nI_add, pk_mul, subN, divN, nI_clamp, mI1, wrH, wrM1, wrM2, wrowH, wrowM, bI0, bI1, kIi, kVi, kRi, kLi, kIx, kVx, Option.some.injEq, exists_eq_left', true_and, and_true, true_implies, false_implies, implies_true, not_true_eq_false, not_false_eq_true, true_or, or_true, false_or, or_false, forall_eq, iteT, iteF, LK_ hK, LM_ hK.m, LB_ hK.b]
      exact out _ (by rw [if_neg e2])
theorem P_day {p1 p2 p3 p4 : Int32} (hK : LK L x) (h : SX I0 I x n sn dn ac fi tp sd) : PR I0 L x 130 269 0 1 d e [.int p1, .int p2, .int p3, .int p4] I J z l ex := by
  have hn := h.n10
  have hs4 := h.i.2.1.2
  have hd20 := h.i.2.2.1.2
  refine e130 (t130_0 ?_)
  refine sp_checkArgument (fun q => Or.inl ⟨rfl, (by unfold NE9; decide), I, J, rfl, (by first | exact h.2.2.2.2 | exact fun a ha => (em a (Or.inr ha)).trans (h.2.2.2.2 a ha) | exact fun a ha => (em2 a (Or.inr ha)).trans (h.2.2.2.2 a ha) | exact fun a ha => (hs a (by omega)).trans (h.2.2.2.2 a ha) | exact fun a ha => (wrM1 (by omega)).trans ((em a (Or.inr ha)).trans (h.2.2.2.2 a ha)) | exact fun a ha => (e3 a (by omega)).trans ((em a (Or.inr ha)).trans (h.2.2.2.2 a ha)) | exact fun a ha => (cs a (by omega) (by omega)).trans (h.2.2.2.2 a ha) | exact fun a ha => (hs2 a (by omega)).trans (h.2.2.2.2 a ha) | exact fun a ha => (e3 a (by omega) (by omega)).trans (h.2.2.2.2 a ha) | exact fun a ha => (e3 a (by omega) (by omega) (by omega) (by omega)).trans (h.2.2.2.2 a ha) | exact fun a ha => (hs5 a (by omega)).trans ((hs4' a (by omega)).trans ((hs3' a (by omega)).trans ((hs2 a (by omega)).trans (h.2.2.2.2 a ha)))) | (intro a ha; (try rw [wrM1 (by omega)]); (try rw [hs6 a (by omega)]); (try rw [hs5 a (by omega)]); (try rw [e5 a (by omega)]); (try rw [hs4 a (by omega)]); (try rw [e4 a (by omega)]); (try rw [hs3 a (by omega)]); (try rw [e3 a (by omega)]); (try rw [wrM1 (by omega)]); (try rw [hs2 a (by omega)]); (try rw [e2 a (by omega)]); (try rw [em2 a (Or.inr ha)]); (try rw [cs a (by omega) (by omega)]); (try rw [hs1 a (by omega)]); (try rw [hs a (by omega)]); (try rw [em a (Or.inr ha)]); exact h.2.2.2.2 a ha)), fun J2 => e269 (t269_0 ?_)⟩) (fun q1 q2 => t130_7 ?_)
  · simp (disch := omega) only [vpT, nI_leI, nI_ltI, nI_eq, nleT, nleF, nltT, nltF, neqT, neqF, nI_add, pk_mul, subN, divN, nI_clamp, mI1, wrH, wrM1, wrM2, wrowH, wrowM, bI0, bI1, kIi, kVi, kRi, kLi, kIx, kVx, Option.some.injEq, exists_eq_left', true_and, and_true, true_implies, false_implies, implies_true, not_true_eq_false, not_false_eq_true, true_or, or_true, false_or, or_false, forall_eq, iteT, iteF, LK_ hK, LM_ hK.m, LB_ hK.b]
    refine mp_inF (lo := nI 1) (hi := nI 40) rfl rfl q (t269_15 ?_)
    simp (disch := omega) only [vpT, nI_leI, nI_ltI, nI_eq, nleT, nleF, nltT, nltF, neqT, neqF, nI_add, pk_mul, subN, divN, nI_clamp, mI1, wrH, wrM1, wrM2, wrowH, wrowM, bI0, bI1, kIi, kVi, kRi, kLi, kIx, kVx, Option.some.injEq, exists_eq_left', true_and, and_true, true_implies, false_implies, implies_true, not_true_eq_false, not_false_eq_true, true_or, or_true, false_or, or_false, forall_eq, iteT, iteF, LK_ hK, LM_ hK.m, LB_ hK.b]
    refine mp_rightF hK.m (wrH rfl rfl) (by decide) (by decide) (t269_39 ?_)
    simp (disch := omega) only [vpT, nI_leI, nI_ltI, nI_eq, nleT, nleF, nltT, nltF, neqT, neqF, nI_add, pk_mul, subN, divN, nI_clamp, mI1, wrH, wrM1, wrM2, wrowH, wrowM, bI0, bI1, kIi, kVi, kRi, kLi, kIx, kVx, Option.some.injEq, exists_eq_left', true_and, and_true, true_implies, false_implies, implies_true, not_true_eq_false, not_false_eq_true, true_or, or_true, false_or, or_false, forall_eq, iteT, iteF, LK_ hK, LM_ hK.m, LB_ hK.b]
    exact ff h same.rf rfl
  refine sp_checkArgument (fun q => Or.inl ⟨rfl, (by unfold NE9; decide), I, J, rfl, (by first | exact h.2.2.2.2 | exact fun a ha => (em a (Or.inr ha)).trans (h.2.2.2.2 a ha) | exact fun a ha => (em2 a (Or.inr ha)).trans (h.2.2.2.2 a ha) | exact fun a ha => (hs a (by omega)).trans (h.2.2.2.2 a ha) | exact fun a ha => (wrM1 (by omega)).trans ((em a (Or.inr ha)).trans (h.2.2.2.2 a ha)) | exact fun a ha => (e3 a (by omega)).trans ((em a (Or.inr ha)).trans (h.2.2.2.2 a ha)) | exact fun a ha => (cs a (by omega) (by omega)).trans (h.2.2.2.2 a ha) | exact fun a ha => (hs2 a (by omega)).trans (h.2.2.2.2 a ha) | exact fun a ha => (e3 a (by omega) (by omega)).trans (h.2.2.2.2 a ha) | exact fun a ha => (e3 a (by omega) (by omega) (by omega) (by omega)).trans (h.2.2.2.2 a ha) | exact fun a ha => (hs5 a (by omega)).trans ((hs4' a (by omega)).trans ((hs3' a (by omega)).trans ((hs2 a (by omega)).trans (h.2.2.2.2 a ha)))) | (intro a ha; (try rw [wrM1 (by omega)]); (try rw [hs6 a (by omega)]); (try rw [hs5 a (by omega)]); (try rw [e5 a (by omega)]); (try rw [hs4 a (by omega)]); (try rw [e4 a (by omega)]); (try rw [hs3 a (by omega)]); (try rw [e3 a (by omega)]); (try rw [wrM1 (by omega)]); (try rw [hs2 a (by omega)]); (try rw [e2 a (by omega)]); (try rw [em2 a (Or.inr ha)]); (try rw [cs a (by omega) (by omega)]); (try rw [hs1 a (by omega)]); (try rw [hs a (by omega)]); (try rw [em a (Or.inr ha)]); exact h.2.2.2.2 a ha)), fun J2 => e269 (t269_0 ?_)⟩) (fun q3 q4 => t130_13 ?_)
  · simp (disch := omega) only [vpT, nI_leI, nI_ltI, nI_eq, nleT, nleF, nltT, nltF, neqT, neqF, nI_add, pk_mul, subN, divN, nI_clamp, mI1, wrH, wrM1, wrM2, wrowH, wrowM, bI0, bI1, kIi, kVi, kRi, kLi, kIx, kVx, Option.some.injEq, exists_eq_left', true_and, and_true, true_implies, false_implies, implies_true, not_true_eq_false, not_false_eq_true, true_or, or_true, false_or, or_false, forall_eq, iteT, iteF, LK_ hK, LM_ hK.m, LB_ hK.b]
    refine mp_inT (lo := nI 1) (hi := nI 40) rfl rfl ⟨q1, q2⟩ (t269_15 ?_)
    simp (disch := omega) only [vpT, nI_leI, nI_ltI, nI_eq, nleT, nleF, nltT, nltF, neqT, neqF, nI_add, pk_mul, subN, divN, nI_clamp, mI1, wrH, wrM1, wrM2, wrowH, wrowM, bI0, bI1, kIi, kVi, kRi, kLi, kIx, kVx, Option.some.injEq, exists_eq_left', true_and, and_true, true_implies, false_implies, implies_true, not_true_eq_false, not_false_eq_true, true_or, or_true, false_or, or_false, forall_eq, iteT, iteF, LK_ hK, LM_ hK.m, LB_ hK.b]
    refine mp_inF (lo := nI 0) (hi := nI 3) rfl rfl q (t269_27 ?_)
    simp (disch := omega) only [vpT, nI_leI, nI_ltI, nI_eq, nleT, nleF, nltT, nltF, neqT, neqF, nI_add, pk_mul, subN, divN, nI_clamp, mI1, wrH, wrM1, wrM2, wrowH, wrowM, bI0, bI1, kIi, kVi, kRi, kLi, kIx, kVx, Option.some.injEq, exists_eq_left', true_and, and_true, true_implies, false_implies, implies_true, not_true_eq_false, not_false_eq_true, true_or, or_true, false_or, or_false, forall_eq, iteT, iteF, LK_ hK, LM_ hK.m, LB_ hK.b]
    refine mp_rightF hK.m (wrH rfl rfl) (by decide) (by decide) (t269_39 ?_)
    simp (disch := omega) only [vpT, nI_leI, nI_ltI, nI_eq, nleT, nleF, nltT, nltF, neqT, neqF, nI_add, pk_mul, subN, divN, nI_clamp, mI1, wrH, wrM1, wrM2, wrowH, wrowM, bI0, bI1, kIi, kVi, kRi, kLi, kIx, kVx, Option.some.injEq, exists_eq_left', true_and, and_true, true_implies, false_implies, implies_true, not_true_eq_false, not_false_eq_true, true_or, or_true, false_or, or_false, forall_eq, iteT, iteF, LK_ hK, LM_ hK.m, LB_ hK.b]
    exact ff h same.rf rfl
  have pre : ∀ I3 J2 t F, Wp (cal (e + 39)) kc_269 [] F (39, [some (.ref (x + 271)), some (.int p1), some (.int p2), some (.int p3), some (.int p4), none, none, none, none, none], [.int (nI 1)], (L, wr I3 (x + 271) 0 (nI 0), J2, t)) → cal (e + 40) 269 [.ref (x + 271), .int p1, .int p2, .int p3, .int p4] (L, I3, J2, t) F := by
    intro I3 J2 t F kk
    refine e269 (t269_0 ?_)
    simp (disch := omega) only [vpT, nI_leI, nI_ltI, nI_eq, nleT, nleF, nltT, nltF, neqT, neqF, nI_add, pk_mul, subN, divN, nI_clamp, mI1, wrH, wrM1, wrM2, wrowH, wrowM, bI0, bI1, kIi, kVi, kRi, kLi, kIx, kVx, Option.some.injEq, exists_eq_left', true_and, and_true, true_implies, false_implies, implies_true, not_true_eq_false, not_false_eq_true, true_or, or_true, false_or, or_false, forall_eq, iteT, iteF, LK_ hK, LM_ hK.m, LB_ hK.b]
    refine mp_inT (lo := nI 1) (hi := nI 40) rfl rfl ⟨q1, q2⟩ (t269_15 ?_)
    simp (disch := omega) only [vpT, nI_leI, nI_ltI, nI_eq, nleT, nleF, nltT, nltF, neqT, neqF, nI_add, pk_mul, subN, divN, nI_clamp, mI1, wrH, wrM1, wrM2, wrowH, wrowM, bI0, bI1, kIi, kVi, kRi, kLi, kIx, kVx, Option.some.injEq, exists_eq_left', true_and, and_true, true_implies, false_implies, implies_true, not_true_eq_false, not_false_eq_true, true_or, or_true, false_or, or_false, forall_eq, iteT, iteF, LK_ hK, LM_ hK.m, LB_ hK.b]
    refine mp_inT (lo := nI 0) (hi := nI 3) rfl rfl ⟨q3, q4⟩ (t269_27 ?_)
    simp (disch := omega) only [vpT, nI_leI, nI_ltI, nI_eq, nleT, nleF, nltT, nltF, neqT, neqF, nI_add, pk_mul, subN, divN, nI_clamp, mI1, wrH, wrM1, wrM2, wrowH, wrowM, bI0, bI1, kIi, kVi, kRi, kLi, kIx, kVx, Option.some.injEq, exists_eq_left', true_and, and_true, true_implies, false_implies, implies_true, not_true_eq_false, not_false_eq_true, true_or, or_true, false_or, or_false, forall_eq, iteT, iteF, LK_ hK, LM_ hK.m, LB_ hK.b]
    exact mp_rightT hK.m (wrH rfl rfl) kk
  refine sp_checkElement (fun q => Or.inr ⟨rfl, (by unfold NE9; decide), I, J, rfl, (by first | exact h.2.2.2.2 | exact fun a ha => (em a (Or.inr ha)).trans (h.2.2.2.2 a ha) | exact fun a ha => (em2 a (Or.inr ha)).trans (h.2.2.2.2 a ha) | exact fun a ha => (hs a (by omega)).trans (h.2.2.2.2 a ha) | exact fun a ha => (wrM1 (by omega)).trans ((em a (Or.inr ha)).trans (h.2.2.2.2 a ha)) | exact fun a ha => (e3 a (by omega)).trans ((em a (Or.inr ha)).trans (h.2.2.2.2 a ha)) | exact fun a ha => (cs a (by omega) (by omega)).trans (h.2.2.2.2 a ha) | exact fun a ha => (hs2 a (by omega)).trans (h.2.2.2.2 a ha) | exact fun a ha => (e3 a (by omega) (by omega)).trans (h.2.2.2.2 a ha) | exact fun a ha => (e3 a (by omega) (by omega) (by omega) (by omega)).trans (h.2.2.2.2 a ha) | exact fun a ha => (hs5 a (by omega)).trans ((hs4' a (by omega)).trans ((hs3' a (by omega)).trans ((hs2 a (by omega)).trans (h.2.2.2.2 a ha)))) | (intro a ha; (try rw [wrM1 (by omega)]); (try rw [hs6 a (by omega)]); (try rw [hs5 a (by omega)]); (try rw [e5 a (by omega)]); (try rw [hs4 a (by omega)]); (try rw [e4 a (by omega)]); (try rw [hs3 a (by omega)]); (try rw [e3 a (by omega)]); (try rw [wrM1 (by omega)]); (try rw [hs2 a (by omega)]); (try rw [e2 a (by omega)]); (try rw [em2 a (Or.inr ha)]); (try rw [cs a (by omega) (by omega)]); (try rw [hs1 a (by omega)]); (try rw [hs a (by omega)]); (try rw [em a (Or.inr ha)]); exact h.2.2.2.2 a ha)), fun J2 => pre _ _ _ _ (t269_39 ?_)⟩) (fun q5 q6 => t130_19 ?_)
  · simp (disch := omega) only [vpT, nI_leI, nI_ltI, nI_eq, nleT, nleF, nltT, nltF, neqT, neqF, nI_add, pk_mul, subN, divN, nI_clamp, mI1, wrH, wrM1, wrM2, wrowH, wrowM, bI0, bI1, kIi, kVi, kRi, kLi, kIx, kVx, Option.some.injEq, exists_eq_left', true_and, and_true, true_implies, false_implies, implies_true, not_true_eq_false, not_false_eq_true, true_or, or_true, false_or, or_false, forall_eq, iteT, iteF, LK_ hK, LM_ hK.m, LB_ hK.b]
    refine mp_inF (lo := nI 0) (hi := nI 2) rfl rfl (fun q' => q ⟨q'.1, (lt_le (by decide)).mpr q'.2⟩) (t269_53 ?_)
    simp (disch := omega) only [vpT, nI_leI, nI_ltI, nI_eq, nleT, nleF, nltT, nltF, neqT, neqF, nI_add, pk_mul, subN, divN, nI_clamp, mI1, wrH, wrM1, wrM2, wrowH, wrowM, bI0, bI1, kIi, kVi, kRi, kLi, kIx, kVx, Option.some.injEq, exists_eq_left', true_and, and_true, true_implies, false_implies, implies_true, not_true_eq_false, not_false_eq_true, true_or, or_true, false_or, or_false, forall_eq, iteT, iteF, LK_ hK, LM_ hK.m, LB_ hK.b]
    refine mp_rightF hK.m (wrH rfl rfl) (by decide) (by decide) (t269_57 ?_)
    simp (disch := omega) only [vpT, nI_leI, nI_ltI, nI_eq, nleT, nleF, nltT, nltF, neqT, neqF, nI_add, pk_mul, subN, divN, nI_clamp, mI1, wrH, wrM1, wrM2, wrowH, wrowM, bI0, bI1, kIi, kVi, kRi, kLi, kIx, kVx, Option.some.injEq, exists_eq_left', true_and, and_true, true_implies, false_implies, implies_true, not_true_eq_false, not_false_eq_true, true_or, or_true, false_or, or_false, forall_eq, iteT, iteF, LK_ hK, LM_ hK.m, LB_ hK.b]
    exact ff h same.rf rfl
  obtain ⟨N, hN, rfl⟩ := i_le (by omega) (Int32.le_trans (show nI 0 ≤ nI 1 by decide) q1) q2
  obtain ⟨way, hw, rfl⟩ := i_le (by omega) q3 q4
  obtain ⟨what, hwh, rfl⟩ := i_lt (by omega) q5 q6
  simp (disch := omega) only [vpT, nI_leI, nI_ltI, nI_eq, nleT, nleF, nltT, nltF, neqT, neqF, nI_add, pk_mul, subN, divN, nI_clamp, mI1, wrH, wrM1, wrM2, wrowH, wrowM, bI0, bI1, kIi, kVi, kRi, kLi, kIx, kVx, Option.some.injEq, exists_eq_left', true_and, and_true, true_implies, false_implies, implies_true, not_true_eq_false, not_false_eq_true, true_or, or_true, false_or, or_false, forall_eq, iteT, iteF, LK_ hK, LM_ hK.m, LB_ hK.b]
  refine sp_paper hK fun I2 hs2 hA2 => t130_23 ?_
  have hV2 := h.1.1.ag hA2
  have hR2 := h.r.ag hn hs4 hd20 hA2
  obtain ⟨sh, hs3, hsh⟩ := hV2.1.2.2.2.2
  simp (disch := omega) only [vpT, nI_leI, nI_ltI, nI_eq, nleT, nleF, nltT, nltF, neqT, neqF, nI_add, pk_mul, subN, divN, nI_clamp, mI1, wrH, wrM1, wrM2, wrowH, wrowM, bI0, bI1, kIi, kVi, kRi, kLi, kIx, kVx, Option.some.injEq, exists_eq_left', true_and, and_true, true_implies, false_implies, implies_true, not_true_eq_false, not_false_eq_true, true_or, or_true, false_or, or_false, forall_eq, iteT, iteF, LK_ hK, LM_ hK.m, LB_ hK.b]
  refine sp_run (T := 1999) (n := n) (sn := sn) (dn := dn) (sh := sh) hK.y hK.p (by omega) hV2.1 hsh hs3 hN hw fun I3 S0 s hs3' g1 g2 g3 htr _ hps hd => t130_34 ?_
  have em : ∀ a, x + 271 ≤ a ∨ a < x → I3 a = I a := fun a ha => by rw [hs3' a (by omega), hs2 a (by omega)]
  have mod : ∀ r, (r = if what = 0 then (dfin s).1 else if what = 1 then (dfin s).2.1 else (dfin s).2.2) → MD I0 L x 269 e [.int p1, .int (nI N), .int (nI way), .int (nI what)] (fun r2 => r2 = r) 0 (z, l, ex) (L, I3, J, z, l, ex) := by
    intro r er
    refine ⟨I3, J, rfl, (by first | exact h.2.2.2.2 | exact fun a ha => (em a (Or.inr ha)).trans (h.2.2.2.2 a ha) | exact fun a ha => (em2 a (Or.inr ha)).trans (h.2.2.2.2 a ha) | exact fun a ha => (hs a (by omega)).trans (h.2.2.2.2 a ha) | exact fun a ha => (wrM1 (by omega)).trans ((em a (Or.inr ha)).trans (h.2.2.2.2 a ha)) | exact fun a ha => (e3 a (by omega)).trans ((em a (Or.inr ha)).trans (h.2.2.2.2 a ha)) | exact fun a ha => (cs a (by omega) (by omega)).trans (h.2.2.2.2 a ha) | exact fun a ha => (hs2 a (by omega)).trans (h.2.2.2.2 a ha) | exact fun a ha => (e3 a (by omega) (by omega)).trans (h.2.2.2.2 a ha) | exact fun a ha => (e3 a (by omega) (by omega) (by omega) (by omega)).trans (h.2.2.2.2 a ha) | exact fun a ha => (hs5 a (by omega)).trans ((hs4' a (by omega)).trans ((hs3' a (by omega)).trans ((hs2 a (by omega)).trans (h.2.2.2.2 a ha)))) | (intro a ha; (try rw [wrM1 (by omega)]); (try rw [hs6 a (by omega)]); (try rw [hs5 a (by omega)]); (try rw [e5 a (by omega)]); (try rw [hs4 a (by omega)]); (try rw [e4 a (by omega)]); (try rw [hs3 a (by omega)]); (try rw [e3 a (by omega)]); (try rw [wrM1 (by omega)]); (try rw [hs2 a (by omega)]); (try rw [e2 a (by omega)]); (try rw [em2 a (Or.inr ha)]); (try rw [cs a (by omega) (by omega)]); (try rw [hs1 a (by omega)]); (try rw [hs a (by omega)]); (try rw [em a (Or.inr ha)]); exact h.2.2.2.2 a ha)), fun J2 => pre _ _ _ _ (t269_39 ?_)⟩
    simp (disch := omega) only [vpT, nI_leI, nI_ltI, nI_eq, nleT, nleF, nltT, nltF, neqT, neqF, nI_add, pk_mul, subN, divN, nI_clamp, mI1, wrH, wrM1, wrM2, wrowH, wrowM, bI0, bI1, kIi, kVi, kRi, kLi, kIx, kVx, Option.some.injEq, exists_eq_left', true_and, and_true, true_implies, false_implies, implies_true, not_true_eq_false, not_false_eq_true, true_or, or_true, false_or, or_false, forall_eq, iteT, iteF, LK_ hK, LM_ hK.m, LB_ hK.b]
    refine mp_inT (lo := nI 0) (hi := nI 2) rfl rfl ⟨q5, (lt_le (by decide)).mp q6⟩ (t269_53 ?_)
    simp (disch := omega) only [vpT, nI_leI, nI_ltI, nI_eq, nleT, nleF, nltT, nltF, neqT, neqF, nI_add, pk_mul, subN, divN, nI_clamp, mI1, wrH, wrM1, wrM2, wrowH, wrowM, bI0, bI1, kIi, kVi, kRi, kLi, kIx, kVx, Option.some.injEq, exists_eq_left', true_and, and_true, true_implies, false_implies, implies_true, not_true_eq_false, not_false_eq_true, true_or, or_true, false_or, or_false, forall_eq, iteT, iteF, LK_ hK, LM_ hK.m, LB_ hK.b]
    refine mp_rightT hK.m (wrH rfl rfl) (t269_57 ?_)
    simp (disch := omega) only [vpT, nI_leI, nI_ltI, nI_eq, nleT, nleF, nltT, nltF, neqT, neqF, nI_add, pk_mul, subN, divN, nI_clamp, mI1, wrH, wrM1, wrM2, wrowH, wrowM, bI0, bI1, kIi, kVi, kRi, kLi, kIx, kVx, Option.some.injEq, exists_eq_left', true_and, and_true, true_implies, false_implies, implies_true, not_true_eq_false, not_false_eq_true, true_or, or_true, false_or, or_false, forall_eq, iteT, iteF, LK_ hK, LM_ hK.m, LB_ hK.b]
    refine mp_dayRun (T := 1999) (S := bd I2 (x + 28 + 2)) (n := n) (sn := sn) (dn := dn) (sh := sh) (S0 := S0) (s := s) (way := way) (what := what) (N := N) hK.m (by rw [wrM1 (by omega), em _ (by omega)]; exact hR2) hV2.1 hN hw hwh hsh hs3 g1 g2 g3 htr hps fun I4 hs4' hf4 hr4 => ⟨er.symm, ?_⟩
    refine f3 h (fun b hb => ?_) (fun j hj => ?_) (fun j hj => ?_) ?_
    · rw [hs4' b (by omega), wrM1 (by omega), hs3' b (by omega), hs2 b (by omega)]
    · rw [hr4 j hj, wrM1 (by omega), em _ (by omega)]
    · rw [hf4 j (by omega), wrM2 (by omega), em _ (by omega)]
    · rw [hf4 0 (by omega)]
      exact wrH rfl rfl
  have d1 : I3 (x + 55) 2 = (dfin s).1 := by rw [← hd]
  have d2 : I3 (x + 55) 3 = (dfin s).2.1 := by rw [← hd]
  have d3 : I3 (x + 55) 4 = (dfin s).2.2 := by rw [← hd]
  have hw3 : what = 0 ∨ what = 1 ∨ what = 2 := by omega
  rcases hw3 with rfl | rfl | rfl
  · simp (disch := omega) only [vpT, nI_leI, nI_ltI, nI_eq, nleT, nleF, nltT, nltF, neqT, neqF, nI_add, pk_mul, subN, divN, nI_clamp, mI1, wrH, wrM1, wrM2, wrowH, wrowM, bI0, bI1, kIi, kVi, kRi, kLi, kIx, kVx, Option.some.injEq, exists_eq_left', true_and, and_true, true_implies, false_implies, implies_true, not_true_eq_false, not_false_eq_true, true_or, or_true, false_or, or_false, forall_eq, iteT, iteF, LK_ hK, LM_ hK.m, LB_ hK.b]
    exact mod _ d1
  · simp (disch := omega) only [vpT, nI_leI, nI_ltI, nI_eq, nleT, nleF, nltT, nltF, neqT, neqF, nI_add, pk_mul, subN, divN, nI_clamp, mI1, wrH, wrM1, wrM2, wrowH, wrowM, bI0, bI1, kIi, kVi, kRi, kLi, kIx, kVx, Option.some.injEq, exists_eq_left', true_and, and_true, true_implies, false_implies, implies_true, not_true_eq_false, not_false_eq_true, true_or, or_true, false_or, or_false, forall_eq, iteT, iteF, LK_ hK, LM_ hK.m, LB_ hK.b]
    exact mod _ d2
  · simp (disch := omega) only [vpT, nI_leI, nI_ltI, nI_eq, nleT, nleF, nltT, nltF, neqT, neqF, nI_add, pk_mul, subN, divN, nI_clamp, mI1, wrH, wrM1, wrM2, wrowH, wrowM, bI0, bI1, kIi, kVi, kRi, kLi, kIx, kVx, Option.some.injEq, exists_eq_left', true_and, and_true, true_implies, false_implies, implies_true, not_true_eq_false, not_false_eq_true, true_or, or_true, false_or, or_false, forall_eq, iteT, iteF, LK_ hK, LM_ hK.m, LB_ hK.b]
    exact mod _ d3
end CALLS9
