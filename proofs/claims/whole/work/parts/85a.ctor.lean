/-! The constructors. -/
theorem upH {α : Type} {f : Nat → α} {a b : Nat} {v : α} (h : b = a) : va_up f a v b = v := by subst h; simp [va_up]
theorem upM {α : Type} {f : Nat → α} {a b : Nat} {v : α} (h : b ≠ a) : va_up f a v b = f b := by simp [va_up, h]
/-- what is older than z stays; but for the fields of a0 -/
def XT (L L' : hL) (I I' : Nat → Nat → Int32) (z a0 : Nat) : Prop := (∀ a, a < z → L'.1 a = L.1 a ∧ L'.2.1 a = L.2.1 a) ∧ (∀ a, a < z → a ≠ a0 → L'.2.2.1 a = L.2.2.1 a ∧ I' a = I a) ∧ L'.2.2.2 = L.2.2.2
theorem LB.xt {L L' : hL} {b : Nat} (h : LB L b) (h1 : ∀ a, b ≤ a → a ≤ b + 12 → L'.1 a = L.1 a) (h2 : ∀ a, b ≤ a → a ≤ b + 12 → L'.2.1 a = L.2.1 a) (h3 : L'.2.2.1 b = L.2.2.1 b) : LB L' b := by
  unfold LB
  simp (disch := omega) only [h1, h2, h3]
  exact h
theorem LT.xt {L L' : hL} {q b : Nat} (h : LT L q b) (h1 : ∀ a, q ≤ a → a ≤ q + 3 → L'.1 a = L.1 a) (h2 : ∀ a, q ≤ a → a ≤ q + 3 → L'.2.1 a = L.2.1 a) (h3 : L'.2.2.1 q = L.2.2.1 q) : LT L' q b := by
  unfold LT
  simp (disch := omega) only [h1, h2, h3]
  exact h
theorem LR.xt {L L' : hL} {r : Nat} (h : LR L r) (h1 : ∀ a, r ≤ a → a ≤ r + 26 → L'.1 a = L.1 a) (h2 : ∀ a, r ≤ a → a ≤ r + 26 → L'.2.1 a = L.2.1 a) (h3 : ∀ a, r ≤ a → a ≤ r + 26 → L'.2.2.1 a = L.2.2.1 a) : LR L' r := by
  obtain ⟨ha, hb, hc, hd⟩ := h
  refine ⟨?_, hb.xt (fun a q1 q2 => h1 a (by omega) (by omega)) (fun a q1 q2 => h2 a (by omega) (by omega)) (h3 _ (by omega) (by omega)), hc.xt (fun a q1 q2 => h1 a (by omega) (by omega)) (fun a q1 q2 => h2 a (by omega) (by omega)) (h3 _ (by omega) (by omega)), hd.xt (fun a q1 q2 => h1 a (by omega) (by omega)) (fun a q1 q2 => h2 a (by omega) (by omega)) (h3 _ (by omega) (by omega))⟩
  simp (disch := omega) only [h1, h2, h3]
  exact ha
section CTOR
variable {L : hL} {I : Nat → Nat → Int32} {J : Nat → Nat → Int64} {l d : Nat} {G : hp → Prop} {X : Nat → hp → Prop}
theorem sp_newTable {q b : Nat} (hq : L.1 q = 8) (k : ∀ L' I' J', LT L' q b → XT L L' I I' (q + 1) q → I' q = I q → G (L', I', J', q + 4, l + 108, true)) : cal (d + 1) 7 [.ref q, .ref b] (L, I, J, q + 1, l, true) (kV G X) := by
  refine e7 (t7_0 ?_)
  simp (disch := omega) only [upM, hq, nI_ltI, nltF, nI_clamp, not_false_eq_true, true_and, nleT, kVi]
  refine k _ _ _ ⟨⟨?_, ?_, ?_, ?_, ?_⟩, ⟨?_, ?_, ?_⟩, ⟨?_, ?_, ?_⟩⟩ ⟨fun a ha => ⟨?_, ?_⟩, fun a ha hn => ⟨?_, ?_⟩, rfl⟩ ?_
  all_goals first
    | (simp (disch := omega) only [upH, upM, wrH, wrM1, wrM2, wrowH, wrowM]; done)
    | (simp (disch := omega) only [upH, upM, wrH, wrM1, wrM2, wrowH, wrowM]; exact hq)
theorem sp_newBoard {b : Nat} (hb : L.1 b = 2) (k : ∀ L' I' J', LB L' b → XT L L' I I' (b + 1) b → (∃ S, New S (bd I' b)) → G (L', I', J', b + 13, l + 192, true)) : cal (d + 3) 2 [.ref b] (L, I, J, b + 1, l, true) (kV G X) := by
  refine e2 (t2_0 ?_)
  simp (disch := omega) only [upM, upH, hb, nI_ltI, nltF, nI_clamp, not_false_eq_true, true_and, nleT, kVi]
  refine sp_makeNew ?_ fun I2 hs2 hN => t2_102 ?_
  · refine ⟨?_, ⟨?_, ?_, ?_, ?_, ?_, ?_, ?_, ?_, ?_, ?_, ?_, ?_⟩, ⟨?_, ?_, ?_, ?_, ?_, ?_, ?_, ?_, ?_, ?_, ?_, ?_⟩, ⟨?_, ?_, ?_, ?_, ?_, ?_, ?_, ?_, ?_, ?_, ?_, ?_⟩⟩
    all_goals first
      | (simp (disch := omega) only [upH, upM, wrH, wrM1, wrM2, wrowH, wrowM]; done)
      | (simp (disch := omega) only [upH, upM, wrH, wrM1, wrM2, wrowH, wrowM]; exact hb)
  · refine k _ _ _ ?_ ⟨fun a ha => ⟨?_, ?_⟩, fun a ha hn => ⟨?_, ?_⟩, rfl⟩ ⟨_, hN⟩
    · refine ⟨?_, ⟨?_, ?_, ?_, ?_, ?_, ?_, ?_, ?_, ?_, ?_, ?_, ?_⟩, ⟨?_, ?_, ?_, ?_, ?_, ?_, ?_, ?_, ?_, ?_, ?_, ?_⟩, ⟨?_, ?_, ?_, ?_, ?_, ?_, ?_, ?_, ?_, ?_, ?_, ?_⟩⟩
      all_goals first
        | (simp (disch := omega) only [upH, upM, wrH, wrM1, wrM2, wrowH, wrowM]; done)
        | (simp (disch := omega) only [upH, upM, wrH, wrM1, wrM2, wrowH, wrowM]; exact hb)
    · simp (disch := omega) only [upM]
    · simp (disch := omega) only [upM]
    · simp (disch := omega) only [wrM1, wrowM]
    · rw [hs2 a (by omega)]
      simp (disch := omega) only [wrowM]
theorem sp_newSearch {q b : Nat} (hq : L.1 q = 7) (k : ∀ L' I' J', (L'.2.2.1 q 0 = some b ∧ L'.2.2.1 q 1 = some (q + 4) ∧ L'.2.2.1 q 2 = some (q + 1) ∧ L'.2.2.1 q 3 = some (q + 2) ∧ L'.2.2.1 q 4 = some (q + 3) ∧ L'.1 (q + 1) = 20 ∧ L'.1 (q + 2) = 20 ∧ L'.1 (q + 3) = 20 ∧ L'.2.1 (q + 1) = 10 ∧ L'.2.1 (q + 2) = 10 ∧ L'.2.1 (q + 3) = 10) → LT L' (q + 4) b → XT L L' I I' (q + 1) q → I' q = I q → G (L', I', J', q + 8, l + 142, true)) : cal (d + 2) 6 [.ref q, .ref b] (L, I, J, q + 1, l, true) (kV G X) := by
  refine e6 (t6_0 ?_)
  simp (disch := omega) only [upM, upH, hq, nI_ltI, nltF, nI_clamp, not_false_eq_true, true_and, nleT, kVi]
  refine sp_newTable (q := q + 1 + 1 + 1 + 1) (b := b) (upH rfl) fun L' I' J' hT hX hI => t6_42 ?_
  obtain ⟨x1, x2, x3⟩ := hX
  dsimp only at x1 x2 x3
  have y1 : ∀ a, a < q + 4 → L'.1 a = _ := fun a ha => (x1 a (by omega)).1
  have y2 : ∀ a, a < q + 4 → L'.2.1 a = _ := fun a ha => (x1 a (by omega)).2
  have y3 : ∀ a, a < q + 4 → L'.2.2.1 a = _ := fun a ha => (x2 a (by omega) (by omega)).1
  have y4 : ∀ a, a < q + 4 → I' a = _ := fun a ha => (x2 a (by omega) (by omega)).2
  have q7 : L'.1 q = 7 := by rw [y1 q (by omega)]; simp (disch := omega) only [upM]; exact hq
  simp (disch := omega) only [q7, true_and, kVi]
  refine k _ _ _ ⟨?_, ?_, ?_, ?_, ?_, ?_, ?_, ?_, ?_, ?_, ?_⟩ ?_ ⟨fun a ha => ⟨?_, ?_⟩, fun a ha hn => ⟨?_, ?_⟩, x3⟩ ?_
  · (try dsimp only); rw [wrM2 (by omega), y3 q (by omega)]; simp (disch := omega) only [wrH, wrM1, wrM2, wrowM]
  · exact wrH rfl rfl
  · (try dsimp only); rw [wrM2 (by omega), y3 q (by omega)]; simp (disch := omega) only [wrH, wrM1, wrM2, wrowM]
  · (try dsimp only); rw [wrM2 (by omega), y3 q (by omega)]; simp (disch := omega) only [wrH, wrM1, wrM2, wrowM]
  · (try dsimp only); rw [wrM2 (by omega), y3 q (by omega)]; simp (disch := omega) only [wrH, wrM1, wrM2, wrowM]
  · show L'.1 (q + 1) = 20; rw [y1 _ (by omega)]; simp (disch := omega) only [upH, upM]
  · show L'.1 (q + 2) = 20; rw [y1 _ (by omega)]; simp (disch := omega) only [upH, upM]
  · show L'.1 (q + 3) = 20; rw [y1 _ (by omega)]; simp (disch := omega) only [upH, upM]
  · show L'.2.1 (q + 1) = 10; rw [y2 _ (by omega)]; simp (disch := omega) only [upH, upM]
  · show L'.2.1 (q + 2) = 10; rw [y2 _ (by omega)]; simp (disch := omega) only [upH, upM]
  · show L'.2.1 (q + 3) = 10; rw [y2 _ (by omega)]; simp (disch := omega) only [upH, upM]
  · exact LT.xt hT (fun _ _ _ => rfl) (fun _ _ _ => rfl) (wrM1 (by omega))
  · show L'.1 a = _; rw [y1 a (by omega)]; simp (disch := omega) only [upM]
  · show L'.2.1 a = _; rw [y2 a (by omega)]; simp (disch := omega) only [upM]
  · (try dsimp only); rw [wrM1 hn, y3 a (by omega)]; simp (disch := omega) only [wrM1, wrowM]
  · (try dsimp only); rw [y4 a (by omega)]; simp (disch := omega) only [wrowM]
  · (try dsimp only); rw [y4 q (by omega)]; simp (disch := omega) only [wrowM]
theorem sp_newRunway {r : Nat} (hr : L.1 r = 5) (k : ∀ L' I' J', LR L' r → XT L L' I I' (r + 1) r → I' r = I r → (∃ S, New S (bd I' (r + 2))) → G (L', I', J', r + 27, l + 482, true)) : cal (d + 4) 1 [.ref r] (L, I, J, r + 1, l, true) (kV G X) := by
  refine e1 (t1_0 ?_)
  simp (disch := omega) only [upM, upH, hr, nI_ltI, nltF, nI_clamp, not_false_eq_true, true_and, nleT, kVi]
  refine sp_newBoard (b := r + 1 + 1) (upH rfl) fun L1 I1 J1 hB ⟨x1, x2, x3⟩ hN => t1_20 ?_
  dsimp only at x1 x2 x3
  have r1 : L1.1 r = 5 := by rw [(x1 r (by omega)).1]; simp (disch := omega) only [upM]; exact hr
  have f1 : L1.2.2.1 r 3 = some (r + 1) := by rw [(x2 r (by omega) (by omega)).1]; simp (disch := omega) only [wrH, wrM1, wrM2, wrowM]
  have t1 : L1.1 (r + 1) = 20 ∧ L1.2.1 (r + 1) = 10 := ⟨by rw [(x1 _ (by omega)).1]; simp (disch := omega) only [upH, upM], by rw [(x1 _ (by omega)).2]; simp (disch := omega) only [upH, upM]⟩
  simp (disch := omega) only [r1, upM, upH, wrowM, wrH, true_and, Option.some.injEq, exists_eq_left']
  refine sp_newSearch (q := r + 15) (b := r + 1 + 1) (upH rfl) fun L2 I2 J2 hSe hT2 ⟨x4, x5, x6⟩ i2 => t1_35 ?_
  dsimp only at x4 x5 x6
  have r2 : L2.1 r = 5 := by rw [(x4 r (by omega)).1, upM (by omega)]; exact r1
  have s2 : L2.1 (r + 15) = 7 := by rw [(x4 _ (by omega)).1]; exact upH rfl
  have f20 : L2.2.2.1 r 0 = some (r + 2) := by rw [(x5 r (by omega) (by omega)).1, wrowM (by omega)]; exact wrH rfl rfl
  have f23 : L2.2.2.1 r 3 = some (r + 1) := by rw [(x5 r (by omega) (by omega)).1, wrowM (by omega), wrM2 (by omega)]; exact f1
  have t2 : L2.1 (r + 1) = 20 ∧ L2.2.1 (r + 1) = 10 := ⟨by rw [(x4 _ (by omega)).1, upM (by omega)]; exact t1.1, by rw [(x4 _ (by omega)).2]; exact t1.2⟩
  have hB2 : LB L2 (r + 2) := LB.xt hB (fun a q1 q2 => by rw [(x4 a (by omega)).1]; exact upM (by omega)) (fun a q1 q2 => (x4 a (by omega)).2) (by rw [(x5 _ (by omega) (by omega)).1, wrowM (by omega), wrM1 (by omega)])
  simp (disch := omega) only [r2, upM, upH, wrowM, wrM2, f20, true_and, Option.some.injEq, exists_eq_left']
  refine sp_newTable (q := r + 23) (b := r + 2) (upH rfl) fun L3 I3 J3 hT3 ⟨x7, x8, x9⟩ i3 => t1_50 ?_
  dsimp only at x7 x8 x9
  have r3 : L3.1 r = 5 := by rw [(x7 r (by omega)).1, upM (by omega)]; exact r2
  simp (disch := omega) only [r3, true_and, kVi]
  have k3 : ∀ a, a < r + 23 → L3.1 a = L2.1 a := fun a ha => by rw [(x7 a (by omega)).1]; exact upM (by omega)
  have n3 : ∀ a, a < r + 23 → L3.2.1 a = L2.2.1 a := fun a ha => (x7 a (by omega)).2
  have m3 : ∀ a, a < r + 23 → a ≠ r → L3.2.2.1 a = L2.2.2.1 a := fun a ha hn => by rw [(x8 a (by omega) (by omega)).1, wrowM (by omega), wrM1 hn]
  have m3r : ∀ j, j ≠ 1 → L3.2.2.1 r j = L2.2.2.1 r j := fun j hj => by rw [(x8 r (by omega) (by omega)).1, wrowM (by omega), wrM2 hj]
  have m3r1 : L3.2.2.1 r 1 = some (r + 15) := by rw [(x8 r (by omega) (by omega)).1, wrowM (by omega)]; exact wrH rfl rfl
  obtain ⟨g0, g1, g2, g3, g4, g5, g6, g7, g8, g9, g10⟩ := hSe
  refine k _ _ _ ⟨⟨r3, ?_, ?_, wrH rfl rfl, ?_, ?_, ?_, ?_, ?_, ?_, ?_, ?_, ?_, ?_, ?_, ?_, ?_, ?_, ?_⟩, ?_, ?_, ?_⟩ ⟨fun a ha => ⟨?_, ?_⟩, fun a ha hn => ⟨?_, ?_⟩, ?_⟩ ?_ ?_
  · (try dsimp only); rw [wrM2 (by omega), m3r 0 (by omega)]; exact f20
  · (try dsimp only); rw [wrM2 (by omega)]; exact m3r1
  · (try dsimp only); rw [wrM2 (by omega), m3r 3 (by omega)]; exact f23
  · show L3.1 (r + 1) = 20; rw [k3 _ (by omega)]; exact t2.1
  · show L3.2.1 (r + 1) = 10; rw [n3 _ (by omega)]; exact t2.2
  · show L3.1 (r + 15) = 7; rw [k3 _ (by omega)]; exact s2
  · (try dsimp only); rw [wrM1 (by omega), m3 _ (by omega) (by omega)]; exact g0
  · (try dsimp only); rw [wrM1 (by omega), m3 _ (by omega) (by omega)]; exact g1
  · (try dsimp only); rw [wrM1 (by omega), m3 _ (by omega) (by omega)]; exact g2
  · (try dsimp only); rw [wrM1 (by omega), m3 _ (by omega) (by omega)]; exact g3
  · (try dsimp only); rw [wrM1 (by omega), m3 _ (by omega) (by omega)]; exact g4
  · show L3.1 (r + 16) = 20; rw [k3 _ (by omega)]; exact g5
  · show L3.1 (r + 17) = 20; rw [k3 _ (by omega)]; exact g6
  · show L3.1 (r + 18) = 20; rw [k3 _ (by omega)]; exact g7
  · show L3.2.1 (r + 16) = 10; rw [n3 _ (by omega)]; exact g8
  · show L3.2.1 (r + 17) = 10; rw [n3 _ (by omega)]; exact g9
  · show L3.2.1 (r + 18) = 10; rw [n3 _ (by omega)]; exact g10
  · exact LB.xt hB2 (fun a q1 q2 => k3 a (by omega)) (fun a q1 q2 => n3 a (by omega)) (by dsimp only; rw [wrM1 (by omega), m3 _ (by omega) (by omega)])
  · exact LT.xt hT2 (fun a q1 q2 => k3 a (by omega)) (fun a q1 q2 => n3 a (by omega)) (by dsimp only; rw [wrM1 (by omega), m3 _ (by omega) (by omega)])
  · exact LT.xt hT3 (fun _ _ _ => rfl) (fun _ _ _ => rfl) (wrM1 (by omega))
  · show L3.1 a = _; rw [k3 a (by omega), (x4 a (by omega)).1, upM (by omega), (x1 a (by omega)).1]; simp (disch := omega) only [upM]
  · show L3.2.1 a = _; rw [n3 a (by omega), (x4 a (by omega)).2, (x1 a (by omega)).2]; simp (disch := omega) only [upM]
  · (try dsimp only); rw [wrM1 hn, m3 a (by omega) hn, (x5 a (by omega) (by omega)).1, wrowM (by omega), wrM1 hn, (x2 a (by omega) (by omega)).1]; simp (disch := omega) only [wrM1, wrowM]
  · (try dsimp only); rw [(x8 a (by omega) (by omega)).2, wrowM (by omega), (x5 a (by omega) (by omega)).2, wrowM (by omega), (x2 a (by omega) (by omega)).2]; simp (disch := omega) only [wrowM]
  · show L3.2.2.2 = _; rw [x9]; show L2.2.2.2 = _; rw [x6]; show L1.2.2.2 = _; rw [x3]
  · (try dsimp only); rw [(x8 r (by omega) (by omega)).2, wrowM (by omega), (x5 r (by omega) (by omega)).2, wrowM (by omega), (x2 r (by omega) (by omega)).2]; simp (disch := omega) only [wrowM]
  · obtain ⟨S, hN⟩ := hN
    refine ⟨S, ?_⟩
    have : bd I3 (r + 2) = bd I1 (r + 2) := bd_same fun a q1 q2 => by rw [(x8 a (by omega) (by omega)).2, wrowM (by omega), (x5 a (by omega) (by omega)).2, wrowM (by omega)]
    rw [this]
    exact hN
end CTOR
