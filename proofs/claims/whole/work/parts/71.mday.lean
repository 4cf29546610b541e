/-! The model's days. -/
theorem Trc_chn {sh : Nat} {way seed : Int32} : ∀ {N : Nat} {s s' : dst}, Trc sh way seed N s s' → ∃ sq : Nat → dst, sq 0 = s ∧ sq N = s' ∧ ∀ i, i < N → DStp sh way (dso seed i) (dR seed (i + 1)) (dwe seed i) (sq i) (sq (i + 1))
  | 0, s, s', h => ⟨fun _ => s, rfl, h.symm, fun i hi => by omega⟩
  | N + 1, s, s', h => by
    obtain ⟨s1, h1, h2⟩ := h
    obtain ⟨sq, e0, eN, hc⟩ := Trc_chn h1
    refine ⟨fun j => if j = N + 1 then s' else sq j, (if_neg (by omega)).trans e0, if_pos rfl, fun j hj => ?_⟩
    by_cases e : j = N
    · subst e
      simp only [if_neg (show ¬ j = j + 1 by omega), if_pos rfl, eN]
      exact h2
    · simp only [if_neg (show ¬ j = N + 1 by omega), if_neg (show ¬ j + 1 = N + 1 by omega)]
      exact hc j (by omega)
theorem Arr.perm {S S' : BS} {n sn dn T sh way : Nat} (hV : VB S n sn dn T) (h : Arr S S' n sh (nI way)) (h0 : 0 < n) (hw : way ≤ 3) : ∃ o, Oth S S' n o ∧ (∀ j, j < n → o j < n) ∧ (∀ i j, i < n → j < n → o i = o j → i = j) := by
  obtain ⟨o, hO, h1, h2, h3, h4⟩ := h
  have hol := BI_or hV.1
  have idl : ∀ j, j < n → ordN S j < n := fun j hj => (hol j hj).2
  refine ⟨o, hO, ?_⟩
  have : way = 0 ∨ way = 1 ∨ way = 2 ∨ way = 3 := by omega
  rcases this with rfl | rfl | rfl | rfl
  · rw [h4 rfl]; exact ⟨idl, hV.2.1⟩
  · obtain ⟨v, fr, -, q⟩ := h1 rfl
    by_cases e : v = -1
    · rw [if_pos e] at q; rw [q]; exact ⟨idl, hV.2.1⟩
    · rw [if_neg e] at q; exact ⟨q.2.1, q.2.2.1⟩
  · have q := h2 rfl
    by_cases e : pinR S n (n - 1) = -1
    · rw [if_pos e] at q; rw [q]; exact ⟨idl, hV.2.1⟩
    · rw [if_neg e] at q
      obtain ⟨p, hp, -, rfl⟩ := q
      exact ⟨fun j hj => mvd_lt idl (by omega) hp hj, mvd_inj (by omega) hp hV.2.1⟩
  · have q := h3 rfl
    by_cases e : trdR S n = -1
    · rw [if_pos e] at q; rw [q]; exact ⟨idl, hV.2.1⟩
    · rw [if_neg e] at q
      obtain ⟨p, hp, -, rfl⟩ := q
      refine ⟨fun j hj => swp_lt idl hp hj, fun i j hi hj w => ?_⟩
      rw [← mvd_swp, ← mvd_swp] at w
      exact mvd_inj (by omega) hp hV.2.1 i j hi hj w
section MDAY
variable {d : Nat} {L : hL} {I : Nat → Nat → Int32} {J : Nat → Nat → Int64} {t : tl} {m n sn dn T sh : Nat} {S S' : BS} {x : Int32} {F : Int32 → hp → Prop} {G : hp → Prop} {X : Nat → hp → Prop}
--facts LM_ hM
theorem mp_draw {k : Nat} (hM : LM L m) (hk0 : 0 < k) (hk : k < 100) (K : F (nI (dvl (drw (I m 30)) % k)) (L, wr I m 30 (drw (I m 30)), J, t)) : cal (d + 1) 271 [.ref m, .int (nI k)] (L, I, J, t) (kI F X) := by
  refine e271 (t271_0 ?_)
  have hv := drawn_s (drw (I m 30))
  simp (disch := omega) only [LM_ hM, forall_eq, wrH, true_and, show I m 30 * nI 1103515245 + nI 12345 = drw (I m 30) from rfl, hv.1, remN, kIi]
  refine ⟨fun e => ?_, K⟩
  have := (nI_eq (show k < 2 ^ 31 by omega) (by decide)).mp e
  omega
/-- what finding a place may change in the model -/
abbrev mq (m : Nat) : Nat → Prop := fun a => a = m ∨ a = m + 1 ∨ a = m + 6 ∨ a = m + 7 ∨ a = m + 8
theorem mp_places {way : Nat} (hM : LM L m) (hR : Rel (I (m + 1)) S n sn dn) (hV : VB S n sn dn T) (h0 : 0 < n) (hlast : ordN S (n - 1) = n - 1) (hsh : bF S 11 = nI sh) (hs3 : sh ≤ 3) (hw : way ≤ 3) (hA : Arr S S' n sh (nI way)) (K : ∀ I2, same I I2 (mq m) → (∀ j, j < 20 ∨ 24 < j → I2 m j = I m j) → Rel (I2 (m + 1)) S' n sn dn → I2 (m + 1) 188 = I (m + 1) 188 → G (L, I2, J, t)) : cal (d + 17) 272 [.ref m, .int (nI way)] (L, I, J, t) (kV G X) := by
  obtain ⟨hI, hP, hBV, hu, hsx⟩ := hV
  have hn := hI.1.2
  have hs4 := hI.2.1.2
  have hd20 := hI.2.2.1.2
  have hol := BI_or hI
  have hfz := frz_le (S := S) (n := n)
  have e2 : I (m + 1) 2 = nI sh := hR.1.2.2.1.trans hsh
  obtain ⟨o, hO, h1, h2, h3, h4⟩ := hA
  have same_o : o = ordN S → ∀ I2, same I I2 (mq m) → (∀ j, j < 20 ∨ 24 < j → I2 m j = I m j) → I2 (m + 1) = I (m + 1) → G (L, I2, J, t) := fun e I2 q1 q2 q3 => K I2 q1 q2 (by
    rw [q3]
    rw [e] at hO
    exact hO.rel hR hn hs4 hd20 (fun q hq => (hR.2.1 q hq).2.2.2.2.trans (hol q hq).1) (fun _ _ _ => rfl)) (by rw [q3])
  refine e272 (t272_0 ?_)
  have fin : ∀ I2 l2 l3 l4, G (L, I2, J, t) → Wp (cal (d + 16)) kc_272 [] (kV G X) (147, [some (.ref m), some (.int (nI way)), some (.int l2), l3, l4], [], (L, I2, J, t)) := fun I2 l2 l3 l4 kk => by
    refine t272_147 ?_
    simp (disch := omega) only [vpT, nI_leI, nI_ltI, nI_eq, nleT, nleF, nltT, nltF, neqT, neqF, nI_add, pk_mul, subN, divN, nI_clamp, mI1, wrH, wrM1, wrM2, wrowH, wrowM, bI0, bI1, kIi, kVi, kRi, kLi, kIx, kVx, Option.some.injEq, exists_eq_left', true_and, and_true, true_implies, false_implies, implies_true, not_true_eq_false, not_false_eq_true, true_or, or_true, false_or, or_false, forall_eq, iteT, iteF, LM_ hM]
    exact kk
  have : way = 0 ∨ way = 1 ∨ way = 2 ∨ way = 3 := by omega
  rcases this with rfl | rfl | rfl | rfl
  · simp (disch := omega) only [vpT, nI_leI, nI_ltI, nI_eq, nleT, nleF, nltT, nltF, neqT, neqF, nI_add, pk_mul, subN, divN, nI_clamp, mI1, wrH, wrM1, wrM2, wrowH, wrowM, bI0, bI1, kIi, kVi, kRi, kLi, kIx, kVx, Option.some.injEq, exists_eq_left', true_and, and_true, true_implies, false_implies, implies_true, not_true_eq_false, not_false_eq_true, true_or, or_true, false_or, or_false, forall_eq, iteT, iteF, LM_ hM, hR.1.1]
    exact fin I _ _ _ (same_o (h4 rfl) I same.rf (fun _ _ => rfl) rfl)
  · obtain ⟨v, fr, hF, hq⟩ := h1 rfl
    simp (disch := omega) only [vpT, nI_leI, nI_ltI, nI_eq, nleT, nleF, nltT, nltF, neqT, neqF, nI_add, pk_mul, subN, divN, nI_clamp, mI1, wrH, wrM1, wrM2, wrowH, wrowM, bI0, bI1, kIi, kVi, kRi, kLi, kIx, kVx, Option.some.injEq, exists_eq_left', true_and, and_true, true_implies, false_implies, implies_true, not_true_eq_false, not_false_eq_true, true_or, or_true, false_or, or_false, forall_eq, iteT, iteF, LM_ hM, hR.1.1, e2]
    refine mp_finds (S := S) (n := n) (sn := sn) (dn := dn) (T := T) (sh := sh) (hd := true) (y := nI 0) hM hR hI hBV hs3 hol fun I2 hs2 hf2 hB2 _ => t272_26 ?_
    obtain ⟨g0, hB2⟩ := hB2 rfl
    have r2 : I2 (m + 1) = I (m + 1) := hs2 _ (by omega)
    have hR2 : Rel (I2 (m + 1)) S n sn dn := by rw [r2]; exact hR
    rcases find_same hI hBV hF hB2 with ⟨z1, z2, z3⟩ | ⟨z1, z2, z3, o', z4, z5, z6⟩
    · rw [if_pos z1] at hq
      refine t272_28 ?_
      simp (disch := omega) only [vpT, nI_leI, nI_ltI, nI_eq, nleT, nleF, nltT, nltF, neqT, neqF, nI_add, pk_mul, subN, divN, nI_clamp, mI1, wrH, wrM1, wrM2, wrowH, wrowM, bI0, bI1, kIi, kVi, kRi, kLi, kIx, kVx, Option.some.injEq, exists_eq_left', true_and, and_true, true_implies, false_implies, implies_true, not_true_eq_false, not_false_eq_true, true_or, or_true, false_or, or_false, forall_eq, iteT, iteF, LM_ hM, hR2.1.1, z2]
      exact fin I2 _ _ _ (same_o hq I2 (hs2.up fun a h => by omega) hf2 r2)
    · rw [if_neg z3] at hq
      have eo : ∀ j, j < n → I2 (m + 8) j = nI (o j) := fun j hj => by rw [z6 j hj, ← z5 j hj, hq.1 j hj]
      have n1 : (I2 m 20 = nI 1000000000) = False := eq_false z2
      refine lg (n := n) (fun i l h => ∃ I3 l4, l = [some (.ref m), some (.int (nI 1)), some (.int (nI (n - 1))), some (.int (nI i)), l4] ∧ h = (L, I3, J, t) ∧ same I2 I3 (fun a => a = m + 1) ∧ (∀ j, j < i → I3 (m + 1) (46 + j) = nI (o j)) ∧ ∀ j, j < 46 ∨ 46 + i ≤ j → I3 (m + 1) j = I (m + 1) j) ?_ ?_ (Nat.zero_le _) _ _ ⟨I2, _, rfl, rfl, same.rf, fun j hj => by omega, fun j _ => by rw [r2]⟩
      · rintro i hi ih _ _ ⟨I3, l4, rfl, rfl, hs3', q1, q2⟩
        have e0 : I3 (m + 1) 0 = nI n := (q2 0 (by omega)).trans hR.1.1
        have em : I3 m = I2 m := hs3' _ (by omega)
        have e8 : I3 (m + 8) = I2 (m + 8) := hs3' _ (by omega)
        refine t272_28 ?_
        simp (disch := omega) only [vpT, nI_leI, nI_ltI, nI_eq, nleT, nleF, nltT, nltF, neqT, neqF, nI_add, pk_mul, subN, divN, nI_clamp, mI1, wrH, wrM1, wrM2, wrowH, wrowM, bI0, bI1, kIi, kVi, kRi, kLi, kIx, kVx, Option.some.injEq, exists_eq_left', true_and, and_true, true_implies, false_implies, implies_true, not_true_eq_false, not_false_eq_true, true_or, or_true, false_or, or_false, forall_eq, iteT, iteF, LM_ hM, e0, em, e8, n1, eo i hi]
        refine ih _ _ ⟨_, _, rfl, rfl, fun a ha => by rw [wrM1 ha]; exact hs3' a ha, fun j hj => ?_, fun j hj => ?_⟩
        · by_cases e : j = i
          · rw [wrH rfl (by omega), e]
          · rw [wrM2 (by omega)]; exact q1 j (by omega)
        · rw [wrM2 (by omega)]; exact q2 j (by omega)
      · rintro _ _ ⟨I3, l4, rfl, rfl, hs3', q1, q2⟩
        have e0 : I3 (m + 1) 0 = nI n := (q2 0 (by omega)).trans hR.1.1
        refine t272_28 ?_
        simp (disch := omega) only [vpT, nI_leI, nI_ltI, nI_eq, nleT, nleF, nltT, nltF, neqT, neqF, nI_add, pk_mul, subN, divN, nI_clamp, mI1, wrH, wrM1, wrM2, wrowH, wrowM, bI0, bI1, kIi, kVi, kRi, kLi, kIx, kVx, Option.some.injEq, exists_eq_left', true_and, and_true, true_implies, false_implies, implies_true, not_true_eq_false, not_false_eq_true, true_or, or_true, false_or, or_false, forall_eq, iteT, iteF, LM_ hM, e0]
        refine fin I3 _ _ _ (K I3 (fun a ha => ?_) (fun j hj => ?_) (hO.rel hR hn hs4 hd20 q1 (fun j hj _ => q2 j hj)) (q2 188 (by omega)))
        · rw [hs3' a (by omega)]; exact hs2 a (by omega)
        · rw [hs3' m (by omega)]; exact hf2 j hj
  · have hq := h2 rfl
    simp (disch := omega) only [vpT, nI_leI, nI_ltI, nI_eq, nleT, nleF, nltT, nltF, neqT, neqF, nI_add, pk_mul, subN, divN, nI_clamp, mI1, wrH, wrM1, wrM2, wrowH, wrowM, bI0, bI1, kIi, kVi, kRi, kLi, kIx, kVx, Option.some.injEq, exists_eq_left', true_and, and_true, true_implies, false_implies, implies_true, not_true_eq_false, not_false_eq_true, true_or, or_true, false_or, or_false, forall_eq, iteT, iteF, LM_ hM, hR.1.1]
    refine mp_frozenNow hM hR hI hol fun I1 hs1 hL1 => t272_81 ?_
    have r1 : I1 (m + 1) = I (m + 1) := hs1 _ (by omega)
    have hR1 : Rel (I1 (m + 1)) S n sn dn := by rw [r1]; exact hR
    simp (disch := omega) only [vpT, nI_leI, nI_ltI, nI_eq, nleT, nleF, nltT, nltF, neqT, neqF, nI_add, pk_mul, subN, divN, nI_clamp, mI1, wrH, wrM1, wrM2, wrowH, wrowM, bI0, bI1, kIi, kVi, kRi, kLi, kIx, kVx, Option.some.injEq, exists_eq_left', true_and, and_true, true_implies, false_implies, implies_true, not_true_eq_false, not_false_eq_true, true_or, or_true, false_or, or_false, forall_eq, iteT, iteF, LM_ hM]
    refine mp_placeOf (p := n - 1) hM hR1 hI hP hol (by omega) hlast (t272_87 ?_)
    have after : ∀ I2 l4 v, v = pinR S n (n - 1) → same I I2 (ms m) → Wp (cal (d + 16)) kc_272 [] (kV G X) (101, [some (.ref m), some (.int (nI 2)), some (.int (nI (n - 1))), some (.int (nI (frz S n))), l4], [.int v], (L, I2, J, t)) := by
      intro I2 l4 v hv hs2
      subst hv
      have r2 : I2 (m + 1) = I (m + 1) := hs2 _ (by omega)
      have hR2 : Rel (I2 (m + 1)) S n sn dn := by rw [r2]; exact hR
      refine t272_101 ?_
      refine ⟨fun e => t272_120 ?_, fun e => ?_⟩
      · rw [if_pos e] at hq
        exact fin I2 _ _ _ (same_o hq I2 (hs2.up fun a h => by omega) (fun j _ => congrFun (hs2 m (by omega)) j) r2)
      · rw [if_neg e] at hq
        obtain ⟨p, hp, ep, rfl⟩ := hq
        rw [ep]
        simp (disch := omega) only [vpT, nI_leI, nI_ltI, nI_eq, nleT, nleF, nltT, nltF, neqT, neqF, nI_add, pk_mul, subN, divN, nI_clamp, mI1, wrH, wrM1, wrM2, wrowH, wrowM, bI0, bI1, kIi, kVi, kRi, kLi, kIx, kVx, Option.some.injEq, exists_eq_left', true_and, and_true, true_implies, false_implies, implies_true, not_true_eq_false, not_false_eq_true, true_or, or_true, false_or, or_false, forall_eq, iteT, iteF, LM_ hM]
        refine mp_laysWith hM hR2 hI hP hol (show n - 1 < n by omega) hlast hp fun I3 hs3' hL3 => t272_116 ?_
        have r3 : I3 (m + 1) = I (m + 1) := (hs3' _ (by omega)).trans r2
        simp (disch := omega) only [vpT, nI_leI, nI_ltI, nI_eq, nleT, nleF, nltT, nltF, neqT, neqF, nI_add, pk_mul, subN, divN, nI_clamp, mI1, wrH, wrM1, wrM2, wrowH, wrowM, bI0, bI1, kIi, kVi, kRi, kLi, kIx, kVx, Option.some.injEq, exists_eq_left', true_and, and_true, true_implies, false_implies, implies_true, not_true_eq_false, not_false_eq_true, true_or, or_true, false_or, or_false, forall_eq, iteT, iteF, LM_ hM]
        refine mp_takesOrder (S := S) (n := n) (sn := sn) (dn := dn) hM (by rw [r3]; exact hR) hI fun I4 hs4' q1 q2 => t272_120 ?_
        refine fin I4 _ _ _ (K I4 (fun a ha => ?_) (fun j hj => ?_) (hO.rel hR hn hs4 hd20 (fun q hq => by rw [q1 q hq]; exact hL3.1 q hq) (fun j hj _ => by rw [q2 j hj, r3])) (by rw [q2 188 (by omega), r3]))
        · rw [hs4' a (by omega), hs3' a (by omega)]; exact hs2 a (by omega)
        · rw [hs4' m (by omega), hs3' m (by omega), hs2 m (by omega)]
    by_cases hlt : n - 1 < frz S n
    · simp (disch := omega) only [vpT, nI_leI, nI_ltI, nI_eq, nleT, nleF, nltT, nltF, neqT, neqF, nI_add, pk_mul, subN, divN, nI_clamp, mI1, wrH, wrM1, wrM2, wrowH, wrowM, bI0, bI1, kIi, kVi, kRi, kLi, kIx, kVx, Option.some.injEq, exists_eq_left', true_and, and_true, true_implies, false_implies, implies_true, not_true_eq_false, not_false_eq_true, true_or, or_true, false_or, or_false, forall_eq, iteT, iteF, LM_ hM]
      exact after I1 _ _ (by unfold pinR; rw [if_pos hlt]) hs1
    · simp (disch := omega) only [vpT, nI_leI, nI_ltI, nI_eq, nleT, nleF, nltT, nltF, neqT, neqF, nI_add, pk_mul, subN, divN, nI_clamp, mI1, wrH, wrM1, wrM2, wrowH, wrowM, bI0, bI1, kIi, kVi, kRi, kLi, kIx, kVx, Option.some.injEq, exists_eq_left', true_and, and_true, true_implies, false_implies, implies_true, not_true_eq_false, not_false_eq_true, true_or, or_true, false_or, or_false, forall_eq, iteT, iteF, LM_ hM]
      refine mp_bestPlace (T := T) hM hR1 hI hBV hP hol (show n - 1 < n by omega) hlast hfz fun I2 hs2 => ?_
      exact after I2 _ _ (by unfold pinR; rw [if_neg hlt]) (hs1.tr hs2)
  · have hq := h3 rfl
    simp (disch := omega) only [vpT, nI_leI, nI_ltI, nI_eq, nleT, nleF, nltT, nltF, neqT, neqF, nI_add, pk_mul, subN, divN, nI_clamp, mI1, wrH, wrM1, wrM2, wrowH, wrowM, bI0, bI1, kIi, kVi, kRi, kLi, kIx, kVx, Option.some.injEq, exists_eq_left', true_and, and_true, true_implies, false_implies, implies_true, not_true_eq_false, not_false_eq_true, true_or, or_true, false_or, or_false, forall_eq, iteT, iteF, LM_ hM, hR.1.1]
    refine mp_bestTrade (T := T) (sh := sh) hM hR hI hBV hol hsh hs3 fun I2 hs2 => t272_132 ?_
    have r2 : I2 (m + 1) = I (m + 1) := hs2 _ (by omega)
    have hR2 : Rel (I2 (m + 1)) S n sn dn := by rw [r2]; exact hR
    refine ⟨fun e => ?_, fun e => ?_⟩
    · rw [if_pos e] at hq
      exact fin I2 _ _ _ (same_o hq I2 (hs2.up fun a h => by omega) (fun j _ => congrFun (hs2 m (by omega)) j) r2)
    · rw [if_neg e] at hq
      obtain ⟨p, hp, ep, rfl⟩ := hq
      rw [ep]
      simp (disch := omega) only [vpT, nI_leI, nI_ltI, nI_eq, nleT, nleF, nltT, nltF, neqT, neqF, nI_add, pk_mul, subN, divN, nI_clamp, mI1, wrH, wrM1, wrM2, wrowH, wrowM, bI0, bI1, kIi, kVi, kRi, kLi, kIx, kVx, Option.some.injEq, exists_eq_left', true_and, and_true, true_implies, false_implies, implies_true, not_true_eq_false, not_false_eq_true, true_or, or_true, false_or, or_false, forall_eq, iteT, iteF, LM_ hM]
      refine mp_laysTraded hM hR2 hI hol hp fun I3 hs3' hL3 => t272_143 ?_
      have r3 : I3 (m + 1) = I (m + 1) := (hs3' _ (by omega)).trans r2
      simp (disch := omega) only [vpT, nI_leI, nI_ltI, nI_eq, nleT, nleF, nltT, nltF, neqT, neqF, nI_add, pk_mul, subN, divN, nI_clamp, mI1, wrH, wrM1, wrM2, wrowH, wrowM, bI0, bI1, kIi, kVi, kRi, kLi, kIx, kVx, Option.some.injEq, exists_eq_left', true_and, and_true, true_implies, false_implies, implies_true, not_true_eq_false, not_false_eq_true, true_or, or_true, false_or, or_false, forall_eq, iteT, iteF, LM_ hM]
      refine mp_takesOrder (S := S) (n := n) (sn := sn) (dn := dn) hM (by rw [r3]; exact hR) hI fun I4 hs4' q1 q2 => ?_
      refine fin I4 _ _ _ (K I4 (fun a ha => ?_) (fun j hj => ?_) (hO.rel hR hn hs4 hd20 (fun q hq => by rw [q1 q hq]; exact hL3.1 q hq) (fun j hj _ => by rw [q2 j hj, r3])) (by rw [q2 188 (by omega), r3]))
      · rw [hs4' a (by omega), hs3' a (by omega)]; exact hs2 a (by omega)
      · rw [hs4' m (by omega), hs3' m (by omega), hs2 m (by omega)]
end MDAY
