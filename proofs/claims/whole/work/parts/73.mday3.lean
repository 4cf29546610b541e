/-! The model's days: one craft more. -/
section MDAY3
variable {d : Nat} {L : hL} {I : Nat → Nat → Int32} {J : Nat → Nat → Int64} {t : tl} {m n sn dn T sh : Nat} {F : Int32 → hp → Prop} {G : hp → Prop} {X : Nat → hp → Prop}
--facts LM_ hM
theorem mp_dayStep {x0 seed : Int32} {so R R1 we N way i what : Nat} {s s' : dst} {l7 l8 l9 : Option Value} (hM : LM L m) (hso : dvl (drw x0) % 8 = so) (hR1 : R + dvl (drw (drw x0)) % 10 = R1) (hwe : dvl (drw (drw (drw x0))) % 4 + 1 = we) (hdx : I m 30 = x0) (so8 : so < 8) (we20 : we ≤ 20) (hRT : R1 ≤ T) (hT : T + 4000 ≤ 1000000) (h188 : I (m + 1) 188 = nI 0) (hR : Rel (I (m + 1)) s.1 s.2.1 sn s.2.2.1) (hV : VB s.1 s.2.1 sn s.2.2.1 T) (hsh : bF s.1 11 = nI sh) (hs3 : sh ≤ 3) (hw : way ≤ 3) (hi : i < N) (hN : N ≤ 40) (hac : (I m 25, I m 26, I m 27) = s.2.2.2) (hst : DStp sh (nI way) so R1 we s s')
    (K : ∀ I2 l7 l8 l9, same I I2 (mda m) → I2 (m + 3) = I (m + 3) → (∀ j, j < 20 ∨ 30 < j ∨ j = 28 ∨ j = 29 → I2 m j = I m j) → Rel (I2 (m + 1)) s'.1 s'.2.1 sn s'.2.2.1 → VB s'.1 s'.2.1 sn s'.2.2.1 (T + 4000) → bF s'.1 11 = nI sh → I2 m 30 = drw (drw (drw x0)) → (I2 m 25, I2 m 26, I2 m 27) = s'.2.2.2 → I2 (m + 1) 188 = nI 0 → Wp (cal (d + 18)) kc_269 [] (kI F X) (77, [some (.ref m), some (.int seed), some (.int (nI N)), some (.int (nI way)), some (.int (nI what)), some (.int (nI R1)), some (.int (nI (i + 1))), l7, l8, l9], [], (L, I2, J, t))) :
    Wp (cal (d + 18)) kc_269 [] (kI F X) (77, [some (.ref m), some (.int seed), some (.int (nI N)), some (.int (nI way)), some (.int (nI what)), some (.int (nI R)), some (.int (nI i)), l7, l8, l9], [], (L, I, J, t)) := by
  obtain ⟨S, n2, d2, a2⟩ := s
  obtain ⟨S', n', d5, a5⟩ := s'
  obtain ⟨⟨S4, n4, d4, a4⟩, ⟨S5, n5, dq, aq⟩, Sc, hp1, hp2, hAdd, hArr, hn', hd'⟩ := hst
  dsimp only at hR hV hsh hac hAdd hArr hn' hd'
  have ed : d5 = dq := congrArg Prod.fst hd'
  have ea : a5 = aq := congrArg Prod.snd hd'
  subst ed
  subst ea
  subst hn'
  have hRb := nI_bd (R := R1) (B := T) hRT (by omega)
  have hV4 : VB S4 n4 sn d4 T := PIf.vb (s := (S, n2, d2, a2)) (s' := (S4, n4, d4, a4)) hV (Nat.le_refl _) (by omega) hRb.1 hRb.2 hp1
  have hsh4 : bF S4 11 = nI sh := hp1.shf.trans hsh
  have hsh5 : bF S5 11 = nI sh := hp2.shf.trans hsh4
  have hn4 := hV4.1.1.2
  have hn2 := hV.1.1.2
  have hn5 : n5 < 10 := by
    rcases hp2 with ⟨h10, D, ⟨z1, -, -⟩, z2, -⟩ | ⟨h10, z⟩
    · have h10' : n4 = 10 := h10
      have z1' : due (slt S4 (ordN S4)) (slt S4 (ordN S4) 0) n4 0 = D := z1
      have z2' : n5 = n4 - D := z2
      rw [h10'] at z1'
      have hD1 : 0 < D := by
        rw [← z1']
        show 0 < (if slt S4 (ordN S4) 0 < slt S4 (ordN S4) 0 then 0 else due (slt S4 (ordN S4)) (slt S4 (ordN S4) 0) 9 1)
        rw [if_neg Int32.lt_irrefl]
        have := (due_spec (f := slt S4 (ordN S4)) (x := slt S4 (ordN S4) 0) (m := 9) (k := 1)).2.2
        omega
      omega
    · have h10' : ¬ n4 = 10 := h10
      have z' : n5 = n4 := congrArg (fun s : dst => s.2.1) z
      omega
  have hV5 : VB S5 n5 sn d5 (T + 4000) := by
    by_cases h10 : n4 = 10
    · have sl := slt_up hV4.1 hV4.2.2.1 (k := 0) (o := ordN S4) (by omega) (fun j hj => (BI_or hV4.1 j (by omega)).2)
      exact PIf.vb (s := (S4, n4, d4, a4)) (s' := (S5, n5, d5, a5)) (c := n4 = 10) hV4 (by omega) hT sl.2.2 (by omega) hp2
    · rcases hp2 with ⟨w, -⟩ | ⟨-, z⟩
      · exact absurd w h10
      · have e1 : S5 = S4 := congrArg (fun s : dst => s.1) z
        have e2 : n5 = n4 := congrArg (fun s : dst => s.2.1) z
        have e3 : d5 = d4 := congrArg (fun s : dst => s.2.2.1) z
        rw [e1, e2, e3]
        exact hV4.up (by omega) hT
  have hVc : VB Sc (n5 + 1) sn d5 (T + 4000) := hV5.add hn5 so8 (by omega) we20 hAdd
  have hshc : bF Sc 11 = nI sh := by rw [hAdd.1.2 11 (by decide)]; exact hsh5
  have hlast : ordN Sc (n5 + 1 - 1) = n5 + 1 - 1 := by
    show ordN Sc n5 = n5
    unfold ordN
    rw [hAdd.2.1.2.2.2.2.2, nI_clamp (by omega)]
  have hs4 := hV5.1.2.1.2
  have hd20 := hV5.1.2.2.1.2
  -- it comes, and finds its place
  have last : ∀ I5, same I I5 (mda m) → I5 (m + 3) = I (m + 3) → (∀ j, j < 20 ∨ 30 < j ∨ j = 28 ∨ j = 29 → I5 m j = I m j) → Rel (I5 (m + 1)) S5 n5 sn d5 → I5 m 30 = drw (drw (drw x0)) → (I5 m 25, I5 m 26, I5 m 27) = a5 → I5 (m + 1) 188 = nI 0 → ∀ l9, Wp (cal (d + 18)) kc_269 [] (kI F X) (155, [some (.ref m), some (.int seed), some (.int (nI N)), some (.int (nI way)), some (.int (nI what)), some (.int (nI R1)), some (.int (nI i)), some (.int (nI so)), some (.int (nI we)), l9], [], (L, I5, J, t)) := by
    intro I5 hs5 h53 hf5 hR5 hd5 ha5 h5h l9
    refine t269_155 ?_
    simp (disch := omega) only [vpT, nI_leI, nI_ltI, nI_eq, nleT, nleF, nltT, nltF, neqT, neqF, nI_add, pk_mul, subN, divN, nI_clamp, mI1, wrH, wrM1, wrM2, wrowH, wrowM, bI0, bI1, kIi, kVi, kRi, kLi, kIx, kVx, Option.some.injEq, exists_eq_left', true_and, and_true, true_implies, false_implies, implies_true, not_true_eq_false, not_false_eq_true, true_or, or_true, false_or, or_false, forall_eq, iteT, iteF, LM_ hM, hR5.1.1]
    generalize hI6 : wr (wr (wr (wr (wr (wr I5 (m + 1) _ _) (m + 1) _ _) (m + 1) _ _) (m + 1) _ _) (m + 1) _ _) (m + 1) 0 _ = I6
    have b6 : ∀ a, a ≠ m + 1 → I6 a = I5 a := fun a ha => by rw [← hI6]; simp (disch := omega) only [vpT, nI_leI, nI_ltI, nI_eq, nleT, nleF, nltT, nltF, neqT, neqF, nI_add, pk_mul, subN, divN, nI_clamp, mI1, wrH, wrM1, wrM2, wrowH, wrowM, bI0, bI1, kIi, kVi, kRi, kLi, kIx, kVx, Option.some.injEq, exists_eq_left', true_and, and_true, true_implies, false_implies, implies_true, not_true_eq_false, not_false_eq_true, true_or, or_true, false_or, or_false, forall_eq, iteT, iteF, LM_ hM]
    have r6 : ∀ j, j ≠ 0 → j ≠ 6 + 4 * n5 → j ≠ 6 + 4 * n5 + 1 → j ≠ 6 + 4 * n5 + 2 → j ≠ 6 + 4 * n5 + 3 → j ≠ 46 + n5 → I6 (m + 1) j = I5 (m + 1) j := fun j q1 q2 q3 q4 q5 q6 => by
      rw [← hI6]
      simp (disch := omega) only [vpT, nI_leI, nI_ltI, nI_eq, nleT, nleF, nltT, nltF, neqT, neqF, nI_add, pk_mul, subN, divN, nI_clamp, mI1, wrH, wrM1, wrM2, wrowH, wrowM, bI0, bI1, kIi, kVi, kRi, kLi, kIx, kVx, Option.some.injEq, exists_eq_left', true_and, and_true, true_implies, false_implies, implies_true, not_true_eq_false, not_false_eq_true, true_or, or_true, false_or, or_false, forall_eq, iteT, iteF, LM_ hM]
    have hu5 : ∀ k, k < n5 → bHu S5 k = nI (0 / 2 ^ k % 2) := fun k hk => by
      obtain ⟨w, w1, w2, w3⟩ := hR5.2.2.2.2.2
      rw [h5h] at w2
      have : 0 = w := (nI_eq (by decide) (by omega)).mp w2
      rw [this]
      exact w3 k hk
    have h6h : I6 (m + 1) 188 = nI 0 := by rw [r6 _ (by omega) (by omega) (by omega) (by omega) (by omega) (by omega)]; exact h5h
    have hR6 : Rel (I6 (m + 1)) Sc (n5 + 1) sn d5 := by
      refine hAdd.rel hR5 hn5 hs4 hd20 ?_ ?_ ?_ ?_ ?_ ?_ ⟨0, by decide, h6h, by rw [Nat.zero_div], hu5⟩ (fun j q1 q2 q3 q4 q5 q6 _ => r6 j q1 q2 q3 q4 q5 q6)
      · rw [← hI6]; simp (disch := omega) only [vpT, nI_leI, nI_ltI, nI_eq, nleT, nleF, nltT, nltF, neqT, neqF, nI_add, pk_mul, subN, divN, nI_clamp, mI1, wrH, wrM1, wrM2, wrowH, wrowM, bI0, bI1, kIi, kVi, kRi, kLi, kIx, kVx, Option.some.injEq, exists_eq_left', true_and, and_true, true_implies, false_implies, implies_true, not_true_eq_false, not_false_eq_true, true_or, or_true, false_or, or_false, forall_eq, iteT, iteF, LM_ hM]
      · rw [← hI6]; simp (disch := omega) only [vpT, nI_leI, nI_ltI, nI_eq, nleT, nleF, nltT, nltF, neqT, neqF, nI_add, pk_mul, subN, divN, nI_clamp, mI1, wrH, wrM1, wrM2, wrowH, wrowM, bI0, bI1, kIi, kVi, kRi, kLi, kIx, kVx, Option.some.injEq, exists_eq_left', true_and, and_true, true_implies, false_implies, implies_true, not_true_eq_false, not_false_eq_true, true_or, or_true, false_or, or_false, forall_eq, iteT, iteF, LM_ hM]
      · rw [← hI6]; simp (disch := omega) only [vpT, nI_leI, nI_ltI, nI_eq, nleT, nleF, nltT, nltF, neqT, neqF, nI_add, pk_mul, subN, divN, nI_clamp, mI1, wrH, wrM1, wrM2, wrowH, wrowM, bI0, bI1, kIi, kVi, kRi, kLi, kIx, kVx, Option.some.injEq, exists_eq_left', true_and, and_true, true_implies, false_implies, implies_true, not_true_eq_false, not_false_eq_true, true_or, or_true, false_or, or_false, forall_eq, iteT, iteF, LM_ hM]
      · rw [← hI6]; simp (disch := omega) only [vpT, nI_leI, nI_ltI, nI_eq, nleT, nleF, nltT, nltF, neqT, neqF, nI_add, pk_mul, subN, divN, nI_clamp, mI1, wrH, wrM1, wrM2, wrowH, wrowM, bI0, bI1, kIi, kVi, kRi, kLi, kIx, kVx, Option.some.injEq, exists_eq_left', true_and, and_true, true_implies, false_implies, implies_true, not_true_eq_false, not_false_eq_true, true_or, or_true, false_or, or_false, forall_eq, iteT, iteF, LM_ hM]
      · rw [← hI6]; simp (disch := omega) only [vpT, nI_leI, nI_ltI, nI_eq, nleT, nleF, nltT, nltF, neqT, neqF, nI_add, pk_mul, subN, divN, nI_clamp, mI1, wrH, wrM1, wrM2, wrowH, wrowM, bI0, bI1, kIi, kVi, kRi, kLi, kIx, kVx, Option.some.injEq, exists_eq_left', true_and, and_true, true_implies, false_implies, implies_true, not_true_eq_false, not_false_eq_true, true_or, or_true, false_or, or_false, forall_eq, iteT, iteF, LM_ hM]
      · rw [← hI6]; simp (disch := omega) only [vpT, nI_leI, nI_ltI, nI_eq, nleT, nleF, nltT, nltF, neqT, neqF, nI_add, pk_mul, subN, divN, nI_clamp, mI1, wrH, wrM1, wrM2, wrowH, wrowM, bI0, bI1, kIi, kVi, kRi, kLi, kIx, kVx, Option.some.injEq, exists_eq_left', true_and, and_true, true_implies, false_implies, implies_true, not_true_eq_false, not_false_eq_true, true_or, or_true, false_or, or_false, forall_eq, iteT, iteF, LM_ hM]
    refine mp_places (n := n5 + 1) (sn := sn) (dn := d5) (T := T + 4000) (sh := sh) (way := way) hM hR6 hVc (by omega) hlast hshc hs3 hw hArr fun I7 hs7 hf7 hR7 h7h => t269_248 ?_
    simp (disch := omega) only [vpT, nI_leI, nI_ltI, nI_eq, nleT, nleF, nltT, nltF, neqT, neqF, nI_add, pk_mul, subN, divN, nI_clamp, mI1, wrH, wrM1, wrM2, wrowH, wrowM, bI0, bI1, kIi, kVi, kRi, kLi, kIx, kVx, Option.some.injEq, exists_eq_left', true_and, and_true, true_implies, false_implies, implies_true, not_true_eq_false, not_false_eq_true, true_or, or_true, false_or, or_false, forall_eq, iteT, iteF, LM_ hM]
    have hA2 := Arr.perm hVc hArr (by omega) hw
    obtain ⟨o, hO, ho1, ho2⟩ := hA2
    refine K I7 _ _ _ (fun a ha => ?_) ?_ (fun j hj => ?_) hR7 (hVc.oth hO ho1 ho2) (by show bF S' 11 = nI sh; rw [hO.2.1]; exact hshc) ?_ ?_ (h7h.trans h6h)
    · rw [hs7 a (by omega), b6 a (by omega)]; exact hs5 a ha
    · rw [hs7 _ (by omega), b6 _ (by omega)]; exact h53
    · rw [hf7 j (by omega), b6 _ (by omega)]; exact hf5 j hj
    · rw [hf7 30 (by omega), b6 _ (by omega)]; exact hd5
    · rw [hf7 25 (by omega), hf7 26 (by omega), hf7 27 (by omega), b6 _ (by omega)]; exact ha5
  -- all places taken: time goes on to the first slot
  have full : ∀ I4, same I I4 (mda m) → I4 (m + 3) = I (m + 3) → (∀ j, j < 20 ∨ 30 < j ∨ j = 28 ∨ j = 29 → I4 m j = I m j) → Rel (I4 (m + 1)) S4 n4 sn d4 → I4 m 30 = drw (drw (drw x0)) → (I4 m 25, I4 m 26, I4 m 27) = a4 → I4 (m + 1) 188 = nI 0 → n4 = 10 → ∀ l9, cal (d + 18) 196 [.ref m] (L, I4, J, t) (kV (fun h2 => Wp (cal (d + 18)) kc_269 [] (kI F X) (144, [some (.ref m), some (.int seed), some (.int (nI N)), some (.int (nI way)), some (.int (nI what)), some (.int (nI R1)), some (.int (nI i)), some (.int (nI so)), some (.int (nI we)), l9], [], h2)) (fun e h2 => kI F X (.inr e) h2)) := by
    intro I4 hs4' h43 hf4 hR4 hd4' ha4 h4h h10 l9
    refine mp_laysPlan hM hR4 hV4.1 (BI_or hV4.1) fun I5 hs5 hL5 => t269_144 ?_
    have r5 : I5 (m + 1) = I4 (m + 1) := hs5 _ (by omega)
    have m5 : I5 m = I4 m := hs5 _ (by omega)
    simp (disch := omega) only [vpT, nI_leI, nI_ltI, nI_eq, nleT, nleF, nltT, nltF, neqT, neqF, nI_add, pk_mul, subN, divN, nI_clamp, mI1, wrH, wrM1, wrM2, wrowH, wrowM, bI0, bI1, kIi, kVi, kRi, kLi, kIx, kVx, Option.some.injEq, exists_eq_left', true_and, and_true, true_implies, false_implies, implies_true, not_true_eq_false, not_false_eq_true, true_or, or_true, false_or, or_false, forall_eq, iteT, iteF, LM_ hM, hL5.2 0 (by omega)]
    rcases hp2 with ⟨-, D, ⟨z1, ⟨S1, z2, z3⟩, z4⟩, z5, z6⟩ | ⟨w, -⟩
    · refine mp_passesTo (S := S4) (n := n4) (sn := sn) (dn := d4) (D := D) hM (by rw [r5]; exact hR4) hV4.1 hV4.2.1 z1 z2 fun I6 g1 g2 g25 g26 g27 gR gh => t269_154 ?_
      have z3' : S5 = (fun j => if j = 13 then slt S4 (ordN S4) 0 else bF S1 j, S1.2) := z3
      have z5' : n5 = n4 - D := z5
      have z6' : d5 = mn20 (d4 + D) := z6
      have z4' : a5 = (dCo S4 (ordN S4) a4.1 D, dLa S4 (ordN S4) a4.2.1 D, dWa S4 (ordN S4) a4.2.2 D) := z4
      rw [← z3', ← z5', ← z6'] at gR
      refine last I6 (fun a ha => ?_) ?_ (fun j hj => ?_) gR ?_ ?_ (gh (by rw [r5]; exact h4h)) _
      · rw [g1 a (by omega), hs5 a (by omega)]; exact hs4' a ha
      · rw [g1 _ (by omega), hs5 _ (by omega)]; exact h43
      · rw [g2 j (by omega), m5]; exact hf4 j hj
      · rw [g2 30 (by omega), m5]; exact hd4'
      · rw [g25, g26, g27, m5, z4', ← ha4]
    · exact absurd h10 w
  have none5 : n4 ≠ 10 → S5 = S4 ∧ n5 = n4 ∧ d5 = d4 ∧ a5 = a4 := fun h => by
    rcases hp2 with ⟨w, -⟩ | ⟨-, z⟩
    · exact absurd w h
    · exact ⟨congrArg (fun s : dst => s.1) z, congrArg (fun s : dst => s.2.1) z, congrArg (fun s : dst => s.2.2.1) z, congrArg (fun s : dst => s.2.2.2) z⟩
  refine t269_77 ?_
  simp (disch := omega) only [vpT, nI_leI, nI_ltI, nI_eq, nleT, nleF, nltT, nltF, neqT, neqF, nI_add, pk_mul, subN, divN, nI_clamp, mI1, wrH, wrM1, wrM2, wrowH, wrowM, bI0, bI1, kIi, kVi, kRi, kLi, kIx, kVx, Option.some.injEq, exists_eq_left', true_and, and_true, true_implies, false_implies, implies_true, not_true_eq_false, not_false_eq_true, true_or, or_true, false_or, or_false, forall_eq, iteT, iteF, LM_ hM]
  refine mp_draw (k := 8) hM (by decide) (by decide) (t269_89 ?_)
  simp (disch := omega) only [vpT, nI_leI, nI_ltI, nI_eq, nleT, nleF, nltT, nltF, neqT, neqF, nI_add, pk_mul, subN, divN, nI_clamp, mI1, wrH, wrM1, wrM2, wrowH, wrowM, bI0, bI1, kIi, kVi, kRi, kLi, kIx, kVx, Option.some.injEq, exists_eq_left', true_and, and_true, true_implies, false_implies, implies_true, not_true_eq_false, not_false_eq_true, true_or, or_true, false_or, or_false, forall_eq, iteT, iteF, LM_ hM]
  refine mp_draw (k := 10) hM (by decide) (by decide) (t269_99 ?_)
  simp (disch := omega) only [vpT, nI_leI, nI_ltI, nI_eq, nleT, nleF, nltT, nltF, neqT, neqF, nI_add, pk_mul, subN, divN, nI_clamp, mI1, wrH, wrM1, wrM2, wrowH, wrowM, bI0, bI1, kIi, kVi, kRi, kLi, kIx, kVx, Option.some.injEq, exists_eq_left', true_and, and_true, true_implies, false_implies, implies_true, not_true_eq_false, not_false_eq_true, true_or, or_true, false_or, or_false, forall_eq, iteT, iteF, LM_ hM]
  refine mp_draw (k := 4) hM (by decide) (by decide) (t269_107 ?_)
  simp (disch := omega) only [vpT, nI_leI, nI_ltI, nI_eq, nleT, nleF, nltT, nltF, neqT, neqF, nI_add, pk_mul, subN, divN, nI_clamp, mI1, wrH, wrM1, wrM2, wrowH, wrowM, bI0, bI1, kIi, kVi, kRi, kLi, kIx, kVx, Option.some.injEq, exists_eq_left', true_and, and_true, true_implies, false_implies, implies_true, not_true_eq_false, not_false_eq_true, true_or, or_true, false_or, or_false, forall_eq, iteT, iteF, LM_ hM, hdx, hR.1.1, hR.1.2.1]
  generalize hI3 : wr (wr (wr I m 30 (drw x0)) m 30 (drw (drw x0))) m 30 (drw (drw (drw x0))) = I3
  have b3 : ∀ a, a ≠ m → I3 a = I a := fun a ha => by rw [← hI3]; simp (disch := omega) only [vpT, nI_leI, nI_ltI, nI_eq, nleT, nleF, nltT, nltF, neqT, neqF, nI_add, pk_mul, subN, divN, nI_clamp, mI1, wrH, wrM1, wrM2, wrowH, wrowM, bI0, bI1, kIi, kVi, kRi, kLi, kIx, kVx, Option.some.injEq, exists_eq_left', true_and, and_true, true_implies, false_implies, implies_true, not_true_eq_false, not_false_eq_true, true_or, or_true, false_or, or_false, forall_eq, iteT, iteF, LM_ hM]
  have m3 : ∀ j, j ≠ 30 → I3 m j = I m j := fun j hj => by rw [← hI3]; simp (disch := omega) only [vpT, nI_leI, nI_ltI, nI_eq, nleT, nleF, nltT, nltF, neqT, neqF, nI_add, pk_mul, subN, divN, nI_clamp, mI1, wrH, wrM1, wrM2, wrowH, wrowM, bI0, bI1, kIi, kVi, kRi, kLi, kIx, kVx, Option.some.injEq, exists_eq_left', true_and, and_true, true_implies, false_implies, implies_true, not_true_eq_false, not_false_eq_true, true_or, or_true, false_or, or_false, forall_eq, iteT, iteF, LM_ hM]
  have m30 : I3 m 30 = drw (drw (drw x0)) := by rw [← hI3]; simp (disch := omega) only [vpT, nI_leI, nI_ltI, nI_eq, nleT, nleF, nltT, nltF, neqT, neqF, nI_add, pk_mul, subN, divN, nI_clamp, mI1, wrH, wrM1, wrM2, wrowH, wrowM, bI0, bI1, kIi, kVi, kRi, kLi, kIx, kVx, Option.some.injEq, exists_eq_left', true_and, and_true, true_implies, false_implies, implies_true, not_true_eq_false, not_false_eq_true, true_or, or_true, false_or, or_false, forall_eq, iteT, iteF, LM_ hM]
  have hR3 : Rel (I3 (m + 1)) S n2 sn d2 := by rw [b3 _ (by omega)]; exact hR
  have h3h : I3 (m + 1) 188 = nI 0 := by rw [b3 _ (by omega)]; exact h188
  have hs3' : same I I3 (mda m) := fun a ha => b3 a (fun w => ha (Or.inl w))
  have ha3 : (I3 m 25, I3 m 26, I3 m 27) = a2 := by rw [m3 25 (by decide), m3 26 (by decide), m3 27 (by decide)]; exact hac
  simp only [hso, hR1, hwe]
  refine ⟨fun h => ?_, fun h => ?_⟩
  · have e4 : S4 = S ∧ n4 = n2 ∧ d4 = d2 ∧ a4 = a2 := by
      rcases hp1 with ⟨w, -⟩ | ⟨-, z⟩
      · exact absurd h w
      · exact ⟨congrArg (fun s : dst => s.1) z, congrArg (fun s : dst => s.2.1) z, congrArg (fun s : dst => s.2.2.1) z, congrArg (fun s : dst => s.2.2.2) z⟩
    have hR4 : Rel (I3 (m + 1)) S4 n4 sn d4 := by rw [e4.1, e4.2.1, e4.2.2.1]; exact hR3
    refine ⟨fun h10 => ?_, fun h10 => full I3 hs3' (b3 _ (by omega)) (fun j hj => m3 j (by omega)) hR4 m30 (by rw [e4.2.2.2]; exact ha3) h3h (by rw [e4.2.1]; exact h10) _⟩
    obtain ⟨q1, q2, q3, q4⟩ := none5 (by rw [e4.2.1]; exact h10)
    exact last I3 hs3' (b3 _ (by omega)) (fun j hj => m3 j (by omega)) (by rw [q1, q2, q3]; exact hR4) m30 (by rw [q4, e4.2.2.2]; exact ha3) h3h _
  · rcases hp1 with ⟨-, D, ⟨z1, ⟨S1, z2, z3⟩, z4⟩, z5, z6⟩ | ⟨w, -⟩
    · refine mp_passesTo (S := S) (n := n2) (sn := sn) (dn := d2) (D := D) hM hR3 hV.1 hV.2.1 z1 z2 fun I4 g1 g2 g25 g26 g27 gR gh => t269_128 ?_
      have z3' : S4 = (fun j => if j = 13 then nI R1 else bF S1 j, S1.2) := z3
      have z5' : n4 = n2 - D := z5
      have z6' : d4 = mn20 (d2 + D) := z6
      have z4' : a4 = (dCo S (ordN S) a2.1 D, dLa S (ordN S) a2.2.1 D, dWa S (ordN S) a2.2.2 D) := z4
      rw [← z3', ← z5', ← z6'] at gR
      have k1 : same I I4 (mda m) := fun a ha => by rw [g1 a (by omega)]; exact hs3' a ha
      have k2 : I4 (m + 3) = I (m + 3) := by rw [g1 _ (by omega)]; exact b3 _ (by omega)
      have k3 : ∀ j, j < 20 ∨ 30 < j ∨ j = 28 ∨ j = 29 → I4 m j = I m j := fun j hj => by rw [g2 j (by omega)]; exact m3 j (by omega)
      have k4 : I4 m 30 = drw (drw (drw x0)) := by rw [g2 30 (by omega)]; exact m30
      have k5 : (I4 m 25, I4 m 26, I4 m 27) = a4 := by rw [g25, g26, g27, z4', ← ha3]
      simp (disch := omega) only [vpT, nI_leI, nI_ltI, nI_eq, nleT, nleF, nltT, nltF, neqT, neqF, nI_add, pk_mul, subN, divN, nI_clamp, mI1, wrH, wrM1, wrM2, wrowH, wrowM, bI0, bI1, kIi, kVi, kRi, kLi, kIx, kVx, Option.some.injEq, exists_eq_left', true_and, and_true, true_implies, false_implies, implies_true, not_true_eq_false, not_false_eq_true, true_or, or_true, false_or, or_false, forall_eq, iteT, iteF, LM_ hM, gR.1.1]
      refine ⟨fun h10 => ?_, fun h10 => full I4 k1 k2 k3 gR k4 k5 (gh h3h) h10 _⟩
      obtain ⟨q1, q2, q3, q4⟩ := none5 h10
      exact last I4 k1 k2 k3 (by rw [q1, q2, q3]; exact gR) k4 (by rw [q4]; exact k5) (gh h3h) _
    · exact absurd h w
end MDAY3
