/-! The law's run. -/
section RUN
variable {L : hL} {I : Nat → Nat → Int32} {J : Nat → Nat → Int64} {l d x : Nat} {G : hp → Prop} {X : Nat → hp → Prop}
set_option maxHeartbeats 4000000 in
theorem mp_newModel {m : Nat} (hm : L.1 m = 10) (hI0 : I m = fun _ => 0) (k : ∀ L' I' J' z' l', z' = m + 10 → LM L' m → (∀ a, a < m → L'.1 a = L.1 a ∧ L'.2.1 a = L.2.1 a ∧ L'.2.2.1 a = L.2.2.1 a ∧ I' a = I a) → L'.2.2.2 = L.2.2.2 → l' ≤ l + 6000 → I' m 16 = -1 → (∀ j, j ≠ 16 → I' m j = nI 0) → clr (I' (m + 1)) → (∀ j, I' (m + 5) j = nI 0) → G (L', I', J', z', l', true)) : cal (d + 3) 173 [.ref m] (L, I, J, m + 1, l, true) (kV G X) := by
  refine e173 (t173_0 ?_)
  simp (disch := omega) only [upM, upH, wrH, wrM1, wrM2, wrowM, hm, nI_ltI, nltF, nI_clamp, not_false_eq_true, true_and, nleT, Option.some.injEq, exists_eq_left']
  refine mp_clears ?_ ?_ fun I2 hs2 hc => t173_94 ?_
  · simp (disch := omega) only [upM, upH]
  · simp (disch := omega) only [upM, upH]
  · simp only [kVi]
    refine k _ _ _ _ _ ?_ ⟨⟨?_, ?_, ?_, ?_, ?_, ?_, ?_, ?_, ?_, ?_⟩, ⟨?_, ?_, ?_, ?_, ?_, ?_, ?_, ?_, ?_⟩, ⟨?_, ?_, ?_, ?_, ?_, ?_, ?_, ?_, ?_⟩⟩ (fun a ha => ⟨?_, ?_, ?_, ?_⟩) rfl ?_ ?_ (fun j hj => ?_) hc (fun j => ?_)
    · omega
    any_goals (simp (disch := omega) only [upH, upM, wrH, wrM1, wrM2, wrowH, wrowM]; done)
    any_goals (simp (disch := omega) only [upH, upM, wrH, wrM1, wrM2, wrowH, wrowM]; exact hm)
    · rw [hs2 a (by omega)]; simp (disch := omega) only [wrM1, wrowM]
    · omega
    · rw [hs2 m (by omega)]; simp (disch := omega) only [wrM1, wrM2, wrH, wrowM]
    · rw [hs2 m (by omega)]; simp (disch := omega) only [wrM1, wrM2, wrowM]; rw [hI0]; rfl
    · rw [hs2 _ (by omega)]; simp (disch := omega) only [wrM1, wrM2, wrowM, wrowH]; rfl
theorem KX.xt {L L' : hL} (h : KX L x) (h1 : ∀ a, x ≤ a → a < x + 271 → L'.1 a = L.1 a) (h2 : ∀ a, x ≤ a → a < x + 271 → L'.2.1 a = L.2.1 a) (h3 : ∀ a, x ≤ a → a < x + 271 → L'.2.2.1 a = L.2.2.1 a) : KX L' x := by
  obtain ⟨ha, ⟨hb, hc⟩, hd, he, hf, hg⟩ := h
  refine ⟨?_, ⟨hb.xt (fun a q1 q2 => h1 a (by omega) (by omega)) (fun a q1 q2 => h2 a (by omega) (by omega)) (fun a q1 q2 => h3 a (by omega) (by omega)), hc.xt (fun a q1 q2 => h1 a (by omega) (by omega)) (fun a q1 q2 => h2 a (by omega) (by omega)) (fun a q1 q2 => h3 a (by omega) (by omega))⟩, hd.xt (fun a q1 q2 => h1 a (by omega) (by omega)) (fun a q1 q2 => h2 a (by omega) (by omega)) (fun a q1 q2 => h3 a (by omega) (by omega)), ?_, ?_, ?_⟩
  · simp (disch := omega) only [h1, h2, h3]; exact ha
  · simp (disch := omega) only [h1, h2, h3]; exact he
  · simp (disch := omega) only [h1, h2, h3]; exact hf
  · simp (disch := omega) only [h1, h2, h3]; exact hg
theorem LM.xt {L L' : hL} {m : Nat} (h : LM L m) (h1 : ∀ a, m ≤ a → a < m + 10 → L'.1 a = L.1 a) (h2 : ∀ a, m ≤ a → a < m + 10 → L'.2.1 a = L.2.1 a) (h3 : L'.2.2.1 m = L.2.2.1 m) : LM L' m := by
  unfold LM
  simp (disch := omega) only [h1, h2, h3]
  exact h
theorem exitK {Ls : Nat} (h : Ls ≤ 3072) : nI Ls - nI 6 < nI (6 * (Ls / 6)) := by
  rw [Int32.lt_iff_toInt_lt, Int32.toInt_sub, nI_toInt (by omega), nI_toInt (by omega), nI_toInt (by omega), Int.bmod_eq_of_le (by omega) (by omega)]
  omega
set_option maxHeartbeats 4000000 in
theorem law_ok0 {b Ls z : Nat} {adK : Nat → Nat} {L0 : hL} {I0 : Nat → Nat → Int32} {J0 : Nat → Nat → Int64} (hLe : Ls ≤ 3072) (hb : b < z) (hk : ∀ k, k < 7 → adK k < z) (h30 : L0.1 b = 30) (hln : L0.2.1 b = Ls) (hsa : L0.2.2.2 = adK) (h40 : ∀ k, k < 7 → L0.1 (adK k) = 40 ∧ L0.2.1 (adK k) = wl k ∧ ∀ i, i < wl k → I0 (adK k) i = wb k i) : cal 61 273 [.ref b] (L0, I0, J0, z, 0, true) (fun o h' => o = .inl (some (.int 1)) ∧ hsz h' ≤ z + 601024 ∧ hsl h' ≤ 7293034) := by
  refine e273 (t273_0 ?_)
  simp (disch := omega) only [upH, true_and]
  refine sp_newKeeper (upH rfl) (wrowH rfl) fun L1 I1 J1 z1 l1 hz1 hX1 lo1 sa1 hl1 hN1 x7 x8 tp1 ac1 ac2 sd1 => t273_7 ?_
  subst hz1
  simp (disch := omega) only [upH, true_and]
  refine mp_newModel (upH rfl) (wrowH rfl) fun L2 I2 J2 z2 l2 hz2 hM2 lo2 sa2 hl2 m16 mj hc2 tp2 => t273_15 ?_
  subst hz2
  simp (disch := omega) only [nI_ltI, nltF, nI_clamp, not_false_eq_true, true_and, nleT]
  obtain ⟨L3, e3⟩ : ∃ L3 : hL, L3 = (va_up L2.1 (z + 271 + 10) 22, va_up L2.2.1 (z + 271 + 10) 1, wrow L2.2.2.1 (z + 271 + 10) (fun _ => none), L2.2.2.2) := ⟨_, rfl⟩
  rw [← e3]
  have K3 : ∀ a, a < z + 281 → L3.1 a = L2.1 a := fun a ha => by rw [e3]; exact upM (by omega)
  have N3 : ∀ a, a < z + 281 → L3.2.1 a = L2.2.1 a := fun a ha => by rw [e3]; exact upM (by omega)
  have M3 : ∀ a, a < z + 281 → L3.2.2.1 a = L2.2.2.1 a := fun a ha => by rw [e3]; exact wrowM (by omega)
  have K2 : ∀ a, a < z + 271 → L2.1 a = L1.1 a := fun a ha => by rw [(lo2 a ha).1]; exact upM (by omega)
  have N2 : ∀ a, a < z + 271 → L2.2.1 a = L1.2.1 a := fun a ha => (lo2 a ha).2.1
  have M2 : ∀ a, a < z + 271 → L2.2.2.1 a = L1.2.2.1 a := fun a ha => by rw [(lo2 a ha).2.2.1]; exact wrowM (by omega)
  have i2 : ∀ a, a < z + 271 → I2 a = I1 a := fun a ha => by rw [(lo2 a ha).2.2.2]; exact wrowM (by omega)
  have hX3 : KX L3 z := hX1.xt (fun a q1 q2 => by rw [K3 a (by omega), K2 a q2]) (fun a q1 q2 => by rw [N3 a (by omega), N2 a q2]) (fun a q1 q2 => by rw [M3 a (by omega), M2 a q2])
  have hM3 : LM L3 (z + 271) := hM2.xt (fun a q1 q2 => K3 a (by omega)) (fun a q1 q2 => N3 a (by omega)) (M3 _ (by omega))
  have hK : LK L3 z := by
    obtain ⟨a1, a2, a3, a4, a5, a6, a7, a8, a9, a10, a11⟩ := hX3
    exact ⟨a1, a2, a3, hM3, a4, a5, a6, a7, a8, a9, a10, a11, by rw [e3]; exact upH (by omega), by rw [e3]; exact upH (by omega)⟩
  have lowL : ∀ a, a < z → L3.1 a = L0.1 a ∧ L3.2.1 a = L0.2.1 a := fun a ha => ⟨by rw [K3 a (by omega), K2 a (by omega), (lo1 a ha).1]; exact upM (by omega), by rw [N3 a (by omega), N2 a (by omega), (lo1 a ha).2.1]⟩
  have saL : L3.2.2.2 = adK := by rw [e3]; show L2.2.2.2 = _; rw [sa2]; show L1.2.2.2 = _; rw [sa1]; exact hsa
  have hW : WS L3 I0 z := fun k hk7 => by
    rw [saL]
    exact ⟨by rw [(lowL _ (hk k hk7)).1]; exact (h40 k hk7).1, by rw [(lowL _ (hk k hk7)).2]; exact (h40 k hk7).2.1, hk k hk7, (h40 k hk7).2.2⟩
  obtain ⟨S, hN1⟩ := hN1
  have i3 : ∀ a, a < z + 281 → wrow I2 (z + 271 + 10) (fun _ => (0 : Int32)) a = I2 a := fun a ha => wrowM (by omega)
  have hS : ST I0 (wrow I2 (z + 271 + 10) (fun _ => (0 : Int32))) z := by
    have eb : bd (wrow I2 (z + 271 + 10) (fun _ => (0 : Int32))) (z + 1 + 2) = bd I1 (z + 1 + 2) := bd_same fun a r1 r2 => by rw [i3 a (by omega), i2 a (by omega)]
    refine ⟨0, 0, 0, 0, 0, 0, 0, ⟨?_, ?_⟩, ⟨?_, ?_, by omega, fun k hk => ⟨?_, ?_⟩, ?_⟩, ⟨?_, ?_, ?_, by decide, by decide, fun i hi => absurd hi (Nat.not_lt_zero _)⟩, ⟨?_, ?_, by decide, fun k hk => absurd hk (Nat.not_lt_zero _)⟩, fun a ha => ?_⟩
    · rw [eb]; exact New_VL hN1
    · rw [eb, i3 _ (by omega)]; exact New_Rel hN1 hc2
    · rw [i3 _ (by omega), i2 _ (by omega)]; exact x7
    · rw [i3 _ (by omega)]; exact mj 7 (by decide)
    · rw [i3 _ (by omega), i2 _ (by omega), i3 _ (by omega), tp1, tp2]
    · rw [i3 _ (by omega), i2 _ (by omega), tp1]; exact ⟨by decide, by decide⟩
    · rw [i3 _ (by omega), i2 _ (by omega), i3 _ (by omega), x8, m16]
    · rw [i3 _ (by omega), i2 _ (by omega)]; exact ac1
    · rw [i3 _ (by omega), i2 _ (by omega)]; exact ac2
    · rw [i3 _ (by omega)]; exact mj 5 (by decide)
    · rw [i3 _ (by omega), i2 _ (by omega)]; exact sd1
    · rw [i3 _ (by omega)]; exact mj 29 (by decide)
    · rw [i3 _ (by omega), i2 _ (by omega), (lo1 a ha).2.2]; exact wrowM (by omega)
  generalize wrow I2 (z + 271 + 10) (fun _ => (0 : Int32)) = Is at hS
  refine lg (n := Ls / 6) (fun i lv h => ∃ I4 J4 z4 l4 ex l5 l6, lv = [some (.ref b), some (.ref z), some (.ref (z + 271)), some (.ref (z + 271 + 10)), some (.int (nI (6 * i))), l5, l6] ∧ h = (L3, I4, J4, z4, l4, ex) ∧ ST I0 I4 z ∧ z4 ≤ z + 282 + i ∧ l4 ≤ 40000 + 6 * i) ?_ ?_ (Nat.zero_le _) _ _ ⟨_, _, _, _, _, _, _, rfl, rfl, hS, by omega, by omega⟩
  · rintro i hi ih _ _ ⟨I4, J4, z4, l4, ex, l5, l6, rfl, rfl, hS4, hz4, hl4⟩
    refine law_step (Ls := Ls) (i := 6 * i) hK ⟨by rw [(lowL b hb).1]; exact h30, by rw [(lowL b hb).2]; exact hln, hb, hLe, by omega⟩ hW hS4 fun I5 J5 z5 l5' ex5 q5 q6 hS5 hz5 hl5 => t273_2351 ?_
    rw [nI_add]
    exact ih _ _ ⟨I5, J5, z5, l5', ex5, q5, q6, by rw [show 6 * i + 6 = 6 * (i + 1) by omega], rfl, hS5, by omega, by omega⟩
  · rintro _ _ ⟨I4, J4, z4, l4, ex, l5, l6, rfl, rfl, hS4, hz4, hl4⟩
    refine t273_23 ?_
    have eb30 : L3.1 b = 30 := by rw [(lowL b hb).1]; exact h30
    have ebl : L3.2.1 b = Ls := by rw [(lowL b hb).2]; exact hln
    have ee := eq_true (exitK hLe)
    simp only [eb30, ebl, ee, true_and, and_true, true_implies, not_true_eq_false, false_implies, or_true]
    exact ⟨rfl, by show z4 ≤ _; omega, by show l4 ≤ _; omega⟩
end RUN
