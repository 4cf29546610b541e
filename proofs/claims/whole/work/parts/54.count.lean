/-! The class's search: how many; the best by a cost. -/
section COUNT2
variable {d : Nat} {L : hL} {J : Nat → Nat → Int64} {t : tl} {r n sn dn sh f T : Nat} {S : BS} {X : Nat → hp → Prop} {hd : Bool}
--facts hR.1, LB_ hR.b, LT_ hR.t, LT_ hR.s
theorem sp_countDeeper (hR : LR L r) (hI : BI S n sn dn) (hu : HU S n) (hsh : bF S 11 = nI sh) (hs3 : sh ≤ 3) : ∀ m k, k + m = n → f ≤ k → ∀ (I : Nat → Nat → Int32) (o : Nat → Nat) (x : Int32) (F : Int32 → hp → Prop), bd I (r + 2) = S → SE I r S n → I (r + 15) 7 = bI hd → (hd = true → Tab I (r + 19) S o k) → Pre S n f sh hd k o → MK x (usd o k) →
    (∀ I2, same I I2 (st r) → (hd = true → Tab I2 (r + 19) S o k) → F (nI (ct S n f sh hd m k o)) (L, I2, J, t)) →
    cal (d + m + 4) 31 [.ref (r + 15), .int (nI k), .int x] (L, I, J, t) (kI F X) := by
  have hn := hI.1.2
  intro m
  induction m with
  | zero =>
    intro k hk hfk I o x F hb hE hh hT hpre hm K
    have i0 : I (r + 2) 0 = nI n := by have := hI.1.1; rw [← hb] at this; exact this
    refine e31 (t31_0 ?_)
    simp (disch := omega) only [vpT, nI_leI, nI_ltI, nI_eq, nleT, nleF, nltT, nltF, neqT, neqF, nI_add, pk_mul, subN, divN, nI_clamp, mI1, wrH, wrM1, wrM2, wrowH, wrowM, bI0, bI1, kIi, kVi, kRi, kLi, kIx, kVx, Option.some.injEq, exists_eq_left', true_and, and_true, true_implies, false_implies, implies_true, not_true_eq_false, not_false_eq_true, true_or, or_true, false_or, or_false, forall_eq, iteT, iteF, hR.1, LB_ hR.b, LT_ hR.t, LT_ hR.s, i0]
    exact K I same.rf hT
  | succ m ih =>
    intro k hk hfk I o x F hb hE hh hT hpre hm K
    have hkn : k < n := by omega
    have i0 : I (r + 2) 0 = nI n := by have := hI.1.1; rw [← hb] at this; exact this
    refine e31 (t31_0 ?_)
    simp (disch := omega) only [vpT, nI_leI, nI_ltI, nI_eq, nleT, nleF, nltT, nltF, neqT, neqF, nI_add, pk_mul, subN, divN, nI_clamp, mI1, wrH, wrM1, wrM2, wrowH, wrowM, bI0, bI1, kIi, kVi, kRi, kLi, kIx, kVx, Option.some.injEq, exists_eq_left', true_and, and_true, true_implies, false_implies, implies_true, not_true_eq_false, not_false_eq_true, true_or, or_true, false_or, or_false, forall_eq, iteT, iteF, hR.1, LB_ hR.b, LT_ hR.t, LT_ hR.s, i0]
    refine sp_pressedAt (n := n) (sn := sn) (dn := dn) (sh := sh) hR (by rw [hb]; exact hI) (by rw [hb]; exact hsh) hs3 (by rw [hb]; exact hu) (by rw [hb]; exact hE) hm (by omega) fun v hv => t31_25 ?_
    rw [hb] at hv
    have hvne : ∀ pc, pc < n → v = nI pc → ¬ v = -1 := fun pc hpc e => by
      rw [e]
      have : ∀ q, q < 10 → ¬ nI q = -1 := by decide
      exact this pc (by omega)
    refine lg (n := n) (fun c l h => ∃ I2, l = [some (.ref (r + 15)), some (.int (nI k)), some (.int x), some (.int v), some (.int (nI (sumN (fun c => if okc S n f sh hd k o c then ct S n f sh hd m (k + 1) (upk o k c) else 0) c))), some (.int (nI c))] ∧ h = (L, I2, J, t) ∧ same I I2 (st r) ∧ (hd = true → Tab I2 (r + 19) S o k)) ?_ ?_ (Nat.zero_le _) _ _ ⟨I, rfl, rfl, same.rf, hT⟩
    · rintro c hc ihc _ _ ⟨I2, rfl, rfl, hs, hT2⟩
      have hb2 : bd I2 (r + 2) = S := (hs.bd (fun a h1 h2 => by omega)).trans hb
      have i2 : I2 (r + 2) 0 = nI n := by rw [hs _ (by omega)]; exact i0
      have hE2 : SE I2 r S n := hE.same hs (by omega) (by omega)
      have hh2 : I2 (r + 15) 7 = bI hd := by rw [hs _ (by omega)]; exact hh
      have es : sumN (fun c => if okc S n f sh hd k o c then ct S n f sh hd m (k + 1) (upk o k c) else 0) (c + 1) = sumN (fun c => if okc S n f sh hd k o c then ct S n f sh hd m (k + 1) (upk o k c) else 0) c + (if okc S n f sh hd k o c then ct S n f sh hd m (k + 1) (upk o k c) else 0) := rfl
      generalize sumN (fun c => if okc S n f sh hd k o c then ct S n f sh hd m (k + 1) (upk o k c) else 0) c = s at es
      have skip : (if okc S n f sh hd k o c then ct S n f sh hd m (k + 1) (upk o k c) else 0) = 0 → ∀ I3, same I I3 (st r) → (hd = true → Tab I3 (r + 19) S o k) → Wp (cal (d + (m + 1) + 3)) kc_31 [] (kI F X) (32, [some (.ref (r + 15)), some (.int (nI k)), some (.int x), some (.int v), some (.int (nI s)), some (.int (nI (c + 1)))], [], (L, I3, J, t)) := by
        intro h0 I3 hs3' hT3
        exact ihc _ _ ⟨I3, by rw [es, h0]; rfl, rfl, hs3', hT3⟩
      refine t31_32 ?_
      simp (disch := omega) only [vpT, nI_leI, nI_ltI, nI_eq, nleT, nleF, nltT, nltF, neqT, neqF, nI_add, pk_mul, subN, divN, nI_clamp, mI1, wrH, wrM1, wrM2, wrowH, wrowM, bI0, bI1, kIi, kVi, kRi, kLi, kIx, kVx, Option.some.injEq, exists_eq_left', true_and, and_true, true_implies, false_implies, implies_true, not_true_eq_false, not_false_eq_true, true_or, or_true, false_or, or_false, forall_eq, iteT, iteF, hR.1, LB_ hR.b, LT_ hR.t, LT_ hR.s, i2]
      refine sp_isIn hm (by omega) (t31_50 ?_)
      simp (disch := omega) only [vpT, nI_leI, nI_ltI, nI_eq, nleT, nleF, nltT, nltF, neqT, neqF, nI_add, pk_mul, subN, divN, nI_clamp, mI1, wrH, wrM1, wrM2, wrowH, wrowM, bI0, bI1, kIi, kVi, kRi, kLi, kIx, kVx, Option.some.injEq, exists_eq_left', true_and, and_true, true_implies, false_implies, implies_true, not_true_eq_false, not_false_eq_true, true_or, or_true, false_or, or_false, forall_eq, iteT, iteF, hR.1, LB_ hR.b, LT_ hR.t, LT_ hR.s]
      refine ⟨fun h => skip ?_ I2 hs hT2, fun huc => ?_⟩
      · rw [show okc S n f sh hd k o c = false by unfold okc; rw [btf h]; rfl]
        rfl
      refine sp_sisNear (n := n) (sn := sn) (dn := dn) (sh := sh) hR (by rw [hb2]; exact hI) (by rw [hb2]; exact hsh) hs3 (by rw [hb2]; exact hE2) hc (by omega) (t31_61 ?_)
      rw [hb2]
      simp (disch := omega) only [vpT, nI_leI, nI_ltI, nI_eq, nleT, nleF, nltT, nltF, neqT, neqF, nI_add, pk_mul, subN, divN, nI_clamp, mI1, wrH, wrM1, wrM2, wrowH, wrowM, bI0, bI1, kIi, kVi, kRi, kLi, kIx, kVx, Option.some.injEq, exists_eq_left', true_and, and_true, true_implies, false_implies, implies_true, not_true_eq_false, not_false_eq_true, true_or, or_true, false_or, or_false, forall_eq, iteT, iteF, hR.1, LB_ hR.b, LT_ hR.t, LT_ hR.s]
      refine ⟨fun h => skip ?_ I2 hs hT2, fun h => ?_⟩
      · rcases hv with ⟨hv1, -⟩ | ⟨pc, hpc, hv1, hv2, hv3⟩
        · rw [if_pos hv1] at h
          rw [show okc S n f sh hd k o c = false by unfold okc; rw [if_neg (by omega), h, Bool.false_and, Bool.and_false]]
          rfl
        · rw [if_neg (hvne pc hpc hv1), hv1] at h
          have e : c ≠ pc := fun q => by
            rw [q, decide_eq_true rfl] at h
            cases h
          by_cases ok : okc S n f sh hd k o c = true
          · rw [if_pos ok]
            obtain ⟨h1, h2, h3⟩ := okc_iff.mp ok
            refine ct_late (c := pc) (by omega) (hpre.up hc h1 h2 h3) (by omega) hpc ?_ (by omega)
            rw [usd_succ, upk_e, usd_congr (o' := o) (fun j hj => upk_n (by omega)), hv2, decide_eq_false (fun q => e q.symm)]
            rfl
          · rw [if_neg ok]
      · have hnear : near S n sh c k = true := by
          have h' := btf h
          rcases hv with ⟨hv1, -⟩ | ⟨pc, hpc, hv1, hv2, hv3⟩
          · rw [if_pos hv1] at h'; exact h'
          · rw [if_neg (hvne pc hpc hv1), hv1] at h'
            have e : c = pc := (nI_eq (by omega) (by omega)).mp (of_decide_eq_true h')
            rw [e]
            exact decide_eq_true (by omega)
        refine sp_mayStand (n := n) (sn := sn) (dn := dn) (o := upk o k c) (hd := hd) hR (by rw [hb2]; exact hI) hh2 (by omega) hc upk_e (fun q => by rw [hb2]; exact (hT2 q).congr upk_lt) fun I3 hs3' hT3 => t31_71 ?_
        rw [hb2] at hT3 ⊢
        have hTo : hd = true → Tab I3 (r + 19) S o k := fun q => ((hT3 q).less (by omega)).congr fun j hj => upk_n (by omega)
        have eok : okc S n f sh hd k o c = (!hd || decide (slt S (upk o k c) k ≤ bLa S c)) := by unfold okc; rw [huc, if_neg (by omega), hnear]; rfl
        simp (disch := omega) only [vpT, nI_leI, nI_ltI, nI_eq, nleT, nleF, nltT, nltF, neqT, neqF, nI_add, pk_mul, subN, divN, nI_clamp, mI1, wrH, wrM1, wrM2, wrowH, wrowM, bI0, bI1, kIi, kVi, kRi, kLi, kIx, kVx, Option.some.injEq, exists_eq_left', true_and, and_true, true_implies, false_implies, implies_true, not_true_eq_false, not_false_eq_true, true_or, or_true, false_or, or_false, forall_eq, iteT, iteF, hR.1, LB_ hR.b, LT_ hR.t, LT_ hR.s]
        refine ⟨fun h1 => skip (by rw [eok, h1]; rfl) I3 (hs.tr hs3') hTo, fun h1 => ?_⟩
        have ok := eok.trans (btf h1)
        obtain ⟨h4, h5, h6⟩ := okc_iff.mp ok
        rw [if_pos ok] at es
        have hb3 : bd I3 (r + 2) = S := (hs3'.bd (fun a h1 h2 => by omega)).trans hb2
        refine ih (k + 1) (by omega) (by omega) I3 (upk o k c) _ _ hb3 (hE2.same hs3' (by omega) (by omega)) (by rw [hs3' _ (by omega)]; exact hh2) hT3 (hpre.up hc h4 h5 h6) ((MK_or hm (by omega)).congr' ?_) fun I4 hs4 hT4 => t31_89 ?_
        · intro e _
          rw [usd_succ, upk_e, usd_congr (o' := o) (fun j hj => upk_n (by omega))]
        · simp (disch := omega) only [vpT, nI_leI, nI_ltI, nI_eq, nleT, nleF, nltT, nltF, neqT, neqF, nI_add, pk_mul, subN, divN, nI_clamp, mI1, wrH, wrM1, wrM2, wrowH, wrowM, bI0, bI1, kIi, kVi, kRi, kLi, kIx, kVx, Option.some.injEq, exists_eq_left', true_and, and_true, true_implies, false_implies, implies_true, not_true_eq_false, not_false_eq_true, true_or, or_true, false_or, or_false, forall_eq, iteT, iteF, hR.1, LB_ hR.b, LT_ hR.t, LT_ hR.s]
          exact ihc _ _ ⟨I4, by rw [es], rfl, (hs.tr hs3').tr hs4, fun q => ((hT4 q).less (by omega)).congr fun j hj => upk_n (by omega)⟩
    · rintro _ _ ⟨I2, rfl, rfl, hs, hT2⟩
      have i2 : I2 (r + 2) 0 = nI n := by rw [hs _ (by omega)]; exact i0
      refine t31_32 ?_
      simp (disch := omega) only [vpT, nI_leI, nI_ltI, nI_eq, nleT, nleF, nltT, nltF, neqT, neqF, nI_add, pk_mul, subN, divN, nI_clamp, mI1, wrH, wrM1, wrM2, wrowH, wrowM, bI0, bI1, kIi, kVi, kRi, kLi, kIx, kVx, Option.some.injEq, exists_eq_left', true_and, and_true, true_implies, false_implies, implies_true, not_true_eq_false, not_false_eq_true, true_or, or_true, false_or, or_false, forall_eq, iteT, iteF, hR.1, LB_ hR.b, LT_ hR.t, LT_ hR.s, i2]
      exact K I2 hs hT2
end COUNT2
section COUNT3
variable {d : Nat} {L : hL} {I : Nat → Nat → Int32} {J : Nat → Nat → Int64} {t : tl} {r n sn dn sh f T : Nat} {y : Int32} {F : Int32 → hp → Prop} {X : Nat → hp → Prop} {hd : Bool}
--facts hR.1, LB_ hR.b, LT_ hR.t, LT_ hR.s
theorem sp_countOrders (hR : LR L r) (hI : BI (bd I (r + 2)) n sn dn) (hu : HU (bd I (r + 2)) n) (hP : PI (bd I (r + 2)) n) (hsh : bF (bd I (r + 2)) 11 = nI sh) (hs3 : sh ≤ 3) (hf : f ≤ n) (k : ∀ I2, same I I2 (sb r) → F (nI (ct (bd I (r + 2)) n f sh hd n 0 (ordN (bd I (r + 2))))) (L, I2, J, t)) : cal (d + 15) 24 [.ref (r + 15), .int (nI f), .int (bI hd)] (L, I, J, t) (kI F X) := by
  have hn := hI.1.2
  have hb01 : bI hd = nI 0 ∨ bI hd = nI 1 := bI_01 hd
  refine e24 (t24_0 ?_)
  simp only [hR.1, true_and]
  refine ⟨hb01, ?_⟩
  have hbw : bd (wr I (r + 15) 7 (bI hd)) (r + 2) = bd I (r + 2) := bd_same fun a h1 h2 => by simp (disch := omega) only [vpT, nI_leI, nI_ltI, nI_eq, nleT, nleF, nltT, nltF, neqT, neqF, nI_add, pk_mul, subN, divN, nI_clamp, mI1, wrH, wrM1, wrM2, wrowH, wrowM, bI0, bI1, kIi, kVi, kRi, kLi, kIx, kVx, Option.some.injEq, exists_eq_left', true_and, and_true, true_implies, false_implies, implies_true, not_true_eq_false, not_false_eq_true, true_or, or_true, false_or, or_false, forall_eq, iteT, iteF, hR.1, LB_ hR.b, LT_ hR.t, LT_ hR.s]
  refine sp_sbegin (n := n) (sn := sn) (dn := dn) hR (by rw [hbw]; exact hI) (by rw [hbw]; exact hu) fun I1 hs1 hE1 hT1 => t24_9 ?_
  rw [hbw] at hE1 hT1
  have f1 : I1 (r + 15) 7 = bI hd := by
    rw [hs1 _ (by omega)]
    simp (disch := omega) only [vpT, nI_leI, nI_ltI, nI_eq, nleT, nleF, nltT, nltF, neqT, neqF, nI_add, pk_mul, subN, divN, nI_clamp, mI1, wrH, wrM1, wrM2, wrowH, wrowM, bI0, bI1, kIi, kVi, kRi, kLi, kIx, kVx, Option.some.injEq, exists_eq_left', true_and, and_true, true_implies, false_implies, implies_true, not_true_eq_false, not_false_eq_true, true_or, or_true, false_or, or_false, forall_eq, iteT, iteF, hR.1, LB_ hR.b, LT_ hR.t, LT_ hR.s]
  have hsI : same I I1 (sb r) := fun a ha => by
    rw [hs1 a (by omega)]
    simp (disch := omega) only [vpT, nI_leI, nI_ltI, nI_eq, nleT, nleF, nltT, nltF, neqT, neqF, nI_add, pk_mul, subN, divN, nI_clamp, mI1, wrH, wrM1, wrM2, wrowH, wrowM, bI0, bI1, kIi, kVi, kRi, kLi, kIx, kVx, Option.some.injEq, exists_eq_left', true_and, and_true, true_implies, false_implies, implies_true, not_true_eq_false, not_false_eq_true, true_or, or_true, false_or, or_false, forall_eq, iteT, iteF, hR.1, LB_ hR.b, LT_ hR.t, LT_ hR.s]
  have hb1 : bd I1 (r + 2) = bd I (r + 2) := hsI.bd (fun a h1 h2 => by omega)
  generalize hS : bd I (r + 2) = S at *
  have hol : ∀ j, j < n → ordN S j < n := fun j hj => by
    have := (bi_or (I := I) (b := r + 2) (by rw [hS]; exact hI) hj).2
    rw [hS] at this
    exact this
  have e6I : ∀ j, j < n → I (r + 2 + 6) j = nI (ordN S j) := fun j hj => by
    have := (bi_or (I := I) (b := r + 2) (by rw [hS]; exact hI) hj).1
    rw [hS] at this
    rw [← this, ← hS]
    rfl
  refine lg (n := f) (fun i l h => ∃ I2 x l5, l = [some (.ref (r + 15)), some (.int (nI f)), some (.int (bI hd)), some (.int x), some (.int (nI i)), l5] ∧ h = (L, I2, J, t) ∧ same I1 I2 (st r) ∧ (hd = true → Tab I2 (r + 19) S (ordN S) i) ∧ MK x (usd (ordN S) i) ∧ (hd = true → ∀ j, j < i → slt S (ordN S) j ≤ bLa S (ordN S j)) ∧ ct S n f sh hd n 0 (ordN S) = ct S n f sh hd (n - i) i (ordN S)) ?_ ?_ (Nat.zero_le _) _ _ ⟨I1, nI 0, _, rfl, rfl, same.rf, fun _ => hT1 _, MK_0, fun _ j hj => by omega, rfl⟩
  · rintro i hi ih _ _ ⟨I2, x, l5, rfl, rfl, hs, hT2, hm, hh, hct⟩
    have hb2 : bd I2 (r + 2) = S := (hs.bd (fun a h1 h2 => by omega)).trans hb1
    have ho := hol i (by omega)
    have e6 : I2 (r + 2 + 6) i = nI (ordN S i) := by rw [hs _ (by omega), hsI _ (by omega)]; exact e6I i (by omega)
    have ep := ct_plan (S := S) (n := n) (f := f) (sh := sh) (hd := hd) (m := n - (i + 1)) hi (by omega) hP hol
    rw [show n - (i + 1) + 1 = n - i by omega] at ep
    refine t24_14 ?_
    simp (disch := omega) only [vpT, nI_leI, nI_ltI, nI_eq, nleT, nleF, nltT, nltF, neqT, neqF, nI_add, pk_mul, subN, divN, nI_clamp, mI1, wrH, wrM1, wrM2, wrowH, wrowM, bI0, bI1, kIi, kVi, kRi, kLi, kIx, kVx, Option.some.injEq, exists_eq_left', true_and, and_true, true_implies, false_implies, implies_true, not_true_eq_false, not_false_eq_true, true_or, or_true, false_or, or_false, forall_eq, iteT, iteF, hR.1, LB_ hR.b, LT_ hR.t, LT_ hR.s, e6]
    refine sp_mayStand (n := n) (sn := sn) (dn := dn) (o := ordN S) (hd := hd) hR (by rw [hb2]; exact hI) (by rw [hs _ (by omega)]; exact f1) (by omega) ho rfl (by rw [hb2]; exact hT2) fun I3 hs3' hT3 => t24_40 ?_
    rw [hb2] at hT3 ⊢
    simp (disch := omega) only [vpT, nI_leI, nI_ltI, nI_eq, nleT, nleF, nltT, nltF, neqT, neqF, nI_add, pk_mul, subN, divN, nI_clamp, mI1, wrH, wrM1, wrM2, wrowH, wrowM, bI0, bI1, kIi, kVi, kRi, kLi, kIx, kVx, Option.some.injEq, exists_eq_left', true_and, and_true, true_implies, false_implies, implies_true, not_true_eq_false, not_false_eq_true, true_or, or_true, false_or, or_false, forall_eq, iteT, iteF, hR.1, LB_ hR.b, LT_ hR.t, LT_ hR.s]
    refine ⟨fun h1 => ?_, fun h1 => ?_⟩
    · rw [btf h1, if_pos rfl] at ep
      refine ih _ _ ⟨I3, _, _, rfl, rfl, hs.tr hs3', hT3, (MK_or hm (by omega)).congr' fun e _ => usd_succ.symm, fun q j hj => ?_, hct.trans ep⟩
      by_cases e : j = i
      · have h2 := btf h1
        rw [q] at h2
        rw [e]
        exact of_decide_eq_true h2
      · exact hh q j (by omega)
    · rw [h1] at ep
      have := k I3 ((hsI.tr (hs.up fun a h => by omega)).tr (hs3'.up fun a h => by omega))
      rw [hct, ep] at this
      exact this
  · rintro _ _ ⟨I2, x, l5, rfl, rfl, hs, hT2, hm, hh, hct⟩
    have hb2 : bd I2 (r + 2) = S := (hs.bd (fun a h1 h2 => by omega)).trans hb1
    have hE2 : SE I2 r S n := hE1.same hs (by omega) (by omega)
    have hsA : same I I2 (sb r) := hsI.tr (hs.up fun a h => by omega)
    have hpre : Pre S n f sh hd f (ordN S) := ⟨fun j hj => hol j (by omega), fun i j hi hj e => hP i j (by omega) (by omega) e, fun j hj => by rw [if_pos hj], hh⟩
    refine t24_14 ?_
    simp (disch := omega) only [vpT, nI_leI, nI_ltI, nI_eq, nleT, nleF, nltT, nltF, neqT, neqF, nI_add, pk_mul, subN, divN, nI_clamp, mI1, wrH, wrM1, wrM2, wrowH, wrowM, bI0, bI1, kIi, kVi, kRi, kLi, kIx, kVx, Option.some.injEq, exists_eq_left', true_and, and_true, true_implies, false_implies, implies_true, not_true_eq_false, not_false_eq_true, true_or, or_true, false_or, or_false, forall_eq, iteT, iteF, hR.1, LB_ hR.b, LT_ hR.t, LT_ hR.s]
    refine sp_overdue (n := n) (sn := sn) (dn := dn) (sh := sh) hR (by rw [hb2]; exact hI) (by rw [hb2]; exact hsh) hs3 (by rw [hb2]; exact hE2) hm (by omega) (t24_64 ?_)
    rw [hb2]
    simp (disch := omega) only [vpT, nI_leI, nI_ltI, nI_eq, nleT, nleF, nltT, nltF, neqT, neqF, nI_add, pk_mul, subN, divN, nI_clamp, mI1, wrH, wrM1, wrM2, wrowH, wrowM, bI0, bI1, kIi, kVi, kRi, kLi, kIx, kVx, Option.some.injEq, exists_eq_left', true_and, and_true, true_implies, false_implies, implies_true, not_true_eq_false, not_false_eq_true, true_or, or_true, false_or, or_false, forall_eq, iteT, iteF, hR.1, LB_ hR.b, LT_ hR.t, LT_ hR.s]
    refine ⟨fun h => ?_, fun h => ?_⟩
    · refine sp_countDeeper (d := d + 10 - (n - f)) (n := n) (sn := sn) (dn := dn) (sh := sh) (f := f) (hd := hd) hR hI hu hsh hs3 (n - f) f (by omega) (Nat.le_refl _) I2 (ordN S) x _ hb2 hE2 (by rw [hs _ (by omega)]; exact f1) hT2 hpre hm (fun I3 hs3' hT3 => ?_) |> (fun q => by
        rw [show d + 10 - (n - f) + (n - f) + 4 = d + 14 by omega] at q
        exact q)
      refine t24_77 ?_
      simp (disch := omega) only [vpT, nI_leI, nI_ltI, nI_eq, nleT, nleF, nltT, nltF, neqT, neqF, nI_add, pk_mul, subN, divN, nI_clamp, mI1, wrH, wrM1, wrM2, wrowH, wrowM, bI0, bI1, kIi, kVi, kRi, kLi, kIx, kVx, Option.some.injEq, exists_eq_left', true_and, and_true, true_implies, false_implies, implies_true, not_true_eq_false, not_false_eq_true, true_or, or_true, false_or, or_false, forall_eq, iteT, iteF, hR.1, LB_ hR.b, LT_ hR.t, LT_ hR.s]
      rw [← hct]
      exact k I3 (hsA.tr (hs3'.up fun a h => by omega))
    · refine t24_77 ?_
      simp (disch := omega) only [vpT, nI_leI, nI_ltI, nI_eq, nleT, nleF, nltT, nltF, neqT, neqF, nI_add, pk_mul, subN, divN, nI_clamp, mI1, wrH, wrM1, wrM2, wrowH, wrowM, bI0, bI1, kIi, kVi, kRi, kLi, kIx, kVx, Option.some.injEq, exists_eq_left', true_and, and_true, true_implies, false_implies, implies_true, not_true_eq_false, not_false_eq_true, true_or, or_true, false_or, or_false, forall_eq, iteT, iteF, hR.1, LB_ hR.b, LT_ hR.t, LT_ hR.s]
      obtain ⟨c, hc, w⟩ := anyB_iff.mp (btf h)
      rw [Bool.and_eq_true, Bool.not_eq_true', decide_eq_true_iff] at w
      have := k I2 hsA
      rw [hct, ct_late (c := c) (by omega) hpre (Nat.le_refl _) hc w.1 w.2] at this
      exact this
theorem sp_bestCost (hR : LR L r) (hI : BI (bd I (r + 2)) n sn dn) (hV : BV (bd I (r + 2)) n sn dn T) (hu : HU (bd I (r + 2)) n) (hP : PI (bd I (r + 2)) n) (hsh : bF (bd I (r + 2)) 11 = nI sh) (hs3 : sh ≤ 3) (k : ∀ I2 v, same I I2 (fun a => sb r a ∨ tb r a) → Fnd (bd I (r + 2)) n (frz (bd I (r + 2)) n) sh y v (I2 (r + 18)) → F v (L, I2, J, t)) : cal (d + 16) 124 [.ref r, .int y] (L, I, J, t) (kI F X) := by
  refine e124 (t124_0 ?_)
  simp (disch := omega) only [vpT, nI_leI, nI_ltI, nI_eq, nleT, nleF, nltT, nltF, neqT, neqF, nI_add, pk_mul, subN, divN, nI_clamp, mI1, wrH, wrM1, wrM2, wrowH, wrowM, bI0, bI1, kIi, kVi, kRi, kLi, kIx, kVx, Option.some.injEq, exists_eq_left', true_and, and_true, true_implies, false_implies, implies_true, not_true_eq_false, not_false_eq_true, true_or, or_true, false_or, or_false, forall_eq, iteT, iteF, hR.1, LB_ hR.b, LT_ hR.t, LT_ hR.s]
  refine sp_frozen hR hI fun I1 hs1 hT1 => t124_9 ?_
  have hb1 : bd I1 (r + 2) = bd I (r + 2) := hs1.bd (fun a h1 h2 => by omega)
  simp (disch := omega) only [vpT, nI_leI, nI_ltI, nI_eq, nleT, nleF, nltT, nltF, neqT, neqF, nI_add, pk_mul, subN, divN, nI_clamp, mI1, wrH, wrM1, wrM2, wrowH, wrowM, bI0, bI1, kIi, kVi, kRi, kLi, kIx, kVx, Option.some.injEq, exists_eq_left', true_and, and_true, true_implies, false_implies, implies_true, not_true_eq_false, not_false_eq_true, true_or, or_true, false_or, or_false, forall_eq, iteT, iteF, hR.1, LB_ hR.b, LT_ hR.t, LT_ hR.s]
  refine sp_findBest (n := n) (sn := sn) (dn := dn) (T := T) (sh := sh) hR (by rw [hb1]; exact hI) (by rw [hb1]; exact hV) (by rw [hb1]; exact hu) (by rw [hb1]; exact hP) (by rw [hb1]; exact hsh) hs3 frz_le fun I2 v hs2 hF => t124_12 ?_
  rw [hb1] at hF
  simp (disch := omega) only [vpT, nI_leI, nI_ltI, nI_eq, nleT, nleF, nltT, nltF, neqT, neqF, nI_add, pk_mul, subN, divN, nI_clamp, mI1, wrH, wrM1, wrM2, wrowH, wrowM, bI0, bI1, kIi, kVi, kRi, kLi, kIx, kVx, Option.some.injEq, exists_eq_left', true_and, and_true, true_implies, false_implies, implies_true, not_true_eq_false, not_false_eq_true, true_or, or_true, false_or, or_false, forall_eq, iteT, iteF, hR.1, LB_ hR.b, LT_ hR.t, LT_ hR.s]
  exact k I2 v ((hs1.up fun a h => Or.inr h).tr (hs2.up fun a h => Or.inl h)) hF
end COUNT3
