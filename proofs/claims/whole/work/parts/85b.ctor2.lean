/-! The constructors of the keeper and of the model. -/
section CTOR2
variable {L : hL} {I : Nat → Nat → Int32} {J : Nat → Nat → Int64} {l d x : Nat} {G : hp → Prop} {X : Nat → hp → Prop}
theorem sp_newSaying {s : Nat} (hs : L.1 s = 6) (k : ∀ L' I' J', (L'.2.2.1 s 0 = some (s + 1) ∧ L'.1 (s + 1) = 21 ∧ L'.2.1 (s + 1) = 150) → XT L L' I I' (s + 1) s → I' s = I s → G (L', I', J', s + 2, l + 150, true)) : cal (d + 1) 11 [.ref s] (L, I, J, s + 1, l, true) (kV G X) := by
  refine e11 (t11_0 ?_)
  simp (disch := omega) only [upM, hs, nI_ltI, nltF, nI_clamp, not_false_eq_true, true_and, nleT, kVi]
  refine k _ _ _ ⟨?_, ?_, ?_⟩ ⟨fun a ha => ⟨?_, ?_⟩, fun a ha hn => ⟨?_, ?_⟩, rfl⟩ ?_
  all_goals (simp (disch := omega) only [upH, upM, wrH, wrM1, wrM2, wrowH, wrowM])
theorem sp_newActs {A : Nat} (hA : L.1 A = 1) (k : ∀ L' I' J', LA L' A → XT L L' I I' (A + 1) A → I' A = I A → G (L', I', J', A + 210, l + 3376, true)) : cal (d + 4) 10 [.ref A] (L, I, J, A + 1, l, true) (kV G X) := by
  refine e10 (t10_0 ?_)
  simp (disch := omega) only [upM, hA, nI_ltI, nltF, nI_clamp, not_false_eq_true, true_and, nleT]
  refine lg (n := 16) (fun i lv h => ∃ L2 I2 J2 z2 l2, lv = [some (.ref A), some (.int (nI i))] ∧ h = (L2, I2, J2, z2, l2, true) ∧ z2 = A + 2 + 13 * i ∧ l2 = l + 16 + 210 * i ∧ (L2.1 A = 1 ∧ L2.2.2.1 A 0 = some (A + 1) ∧ L2.1 (A + 1) = 23 ∧ L2.2.1 (A + 1) = 16) ∧ (∀ j, j < i → L2.2.2.1 (A + 1) j = some (A + 2 + 13 * j) ∧ LB L2 (A + 2 + 13 * j)) ∧ XT L L2 I I2 (A + 1) A ∧ I2 A = I A) ?_ ?_ (Nat.zero_le _) _ _ ⟨_, _, _, _, _, rfl, rfl, by omega, by omega, ⟨?_, ?_, ?_, ?_⟩, fun j hj => absurd hj (Nat.not_lt_zero _), ⟨fun a ha => ⟨?_, ?_⟩, fun a ha hn => ⟨?_, ?_⟩, rfl⟩, ?_⟩
  · rintro i hi ih _ _ ⟨L2, I2, J2, z2, l2, rfl, rfl, rfl, rfl, ⟨a1, a2, a3, a4⟩, hb, ⟨x1, x2, x3⟩, iA⟩
    refine t10_15 ?_
    simp (disch := omega) only [nI_leI, nleF, a1, a2, upH, false_implies, true_and, not_false_eq_true, true_implies, Option.some.injEq, exists_eq_left']
    refine sp_newBoard (b := A + 2 + 13 * i) (upH rfl) fun L3 I3 J3 hB3 ⟨y1, y2, y3⟩ _ => t10_33 ?_
    dsimp only at y1 y2 y3
    have k3 : ∀ a, a < A + 2 + 13 * i → L3.1 a = L2.1 a := fun a ha => by rw [(y1 a (by omega)).1]; exact upM (by omega)
    have n3 : ∀ a, a < A + 2 + 13 * i → L3.2.1 a = L2.2.1 a := fun a ha => (y1 a (by omega)).2
    have m3 : ∀ a, a < A + 2 + 13 * i → L3.2.2.1 a = L2.2.2.1 a := fun a ha => by rw [(y2 a (by omega) (by omega)).1]; exact wrowM (by omega)
    have i3 : ∀ a, a < A + 2 + 13 * i → I3 a = I2 a := fun a ha => by rw [(y2 a (by omega) (by omega)).2]; exact wrowM (by omega)
    have e23 : L3.1 (A + 1) = 23 := by rw [k3 _ (by omega)]; exact a3
    have e16 : L3.2.1 (A + 1) = 16 := by rw [n3 _ (by omega)]; exact a4
    have eb2 : L3.1 (A + 2 + 13 * i) = 2 := (LB_ hB3).1
    simp (disch := omega) only [e23, e16, eb2, vpT, nI_clamp, nI_add, true_and]
    refine ih _ _ ⟨_, _, _, _, _, rfl, rfl, by omega, by omega, ⟨?_, ?_, e23, e16⟩, fun j hj => ⟨?_, ?_⟩, ⟨fun a ha => ⟨?_, ?_⟩, fun a ha hn => ⟨?_, ?_⟩, ?_⟩, ?_⟩
    · show L3.1 A = 1; rw [k3 _ (by omega)]; exact a1
    · (try dsimp only); rw [wrM1 (by omega), m3 _ (by omega)]; exact a2
    · by_cases q : j = i
      · (try dsimp only); rw [wrH rfl q, q]
      · (try dsimp only); rw [wrM2 q, m3 _ (by omega)]; exact (hb j (by omega)).1
    · by_cases q : j = i
      · (try dsimp only); rw [q]; exact LB.xt hB3 (fun _ _ _ => rfl) (fun _ _ _ => rfl) (wrM1 (by omega))
      · exact LB.xt (hb j (by omega)).2 (fun a r1 r2 => k3 a (by omega)) (fun a r1 r2 => n3 a (by omega)) (by dsimp only; rw [wrM1 (by omega), m3 _ (by omega)])
    · show L3.1 a = _; rw [k3 a (by omega)]; exact (x1 a ha).1
    · show L3.2.1 a = _; rw [n3 a (by omega)]; exact (x1 a ha).2
    · (try dsimp only); rw [wrM1 (by omega), m3 a (by omega)]; exact (x2 a ha hn).1
    · (try dsimp only); rw [i3 a (by omega)]; exact (x2 a ha hn).2
    · show L3.2.2.2 = _; rw [y3]; exact x3
    · (try dsimp only); rw [i3 A (by omega)]; exact iA
  · rintro _ _ ⟨L2, I2, J2, z2, l2, rfl, rfl, rfl, rfl, ⟨a1, a2, a3, a4⟩, hb, hX, iA⟩
    refine t10_15 ?_
    simp (disch := omega) only [nI_leI, nleT, true_implies, not_true_eq_false, false_implies, and_true, kVi]
    exact k L2 I2 J2 ⟨⟨a1, a2, a3, a4⟩, hb⟩ hX iA
  all_goals first
    | (simp (disch := omega) only [upH, upM, wrH, wrM1, wrM2, wrowH, wrowM]; done)
    | (simp (disch := omega) only [upH, upM, wrH, wrM1, wrM2, wrowH, wrowM]; exact hA)
/-- from one stage of the keeper's constructor to a later one -/
def ZS (L L' : hL) (I I' : Nat → Nat → Int32) (z x : Nat) : Prop := (∀ a, a < z → L'.1 a = L.1 a) ∧ (∀ a, a < z → L'.2.1 a = L.2.1 a) ∧ (∀ a, a < z → a ≠ x → L'.2.2.1 a = L.2.2.1 a) ∧ (∀ a, a < z → I' a = I a) ∧ L'.2.2.2 = L.2.2.2
theorem ZS.tr {L L1 L2 : hL} {I I1 I2 : Nat → Nat → Int32} {z z1 x : Nat} (h : ZS L L1 I I1 z x) (h2 : ZS L1 L2 I1 I2 z1 x) (hz : z ≤ z1) : ZS L L2 I I2 z x := ⟨fun a ha => (h2.1 a (by omega)).trans (h.1 a ha), fun a ha => (h2.2.1 a (by omega)).trans (h.2.1 a ha), fun a ha hn => (h2.2.2.1 a (by omega) hn).trans (h.2.2.1 a ha hn), fun a ha => (h2.2.2.2.1 a (by omega)).trans (h.2.2.2.1 a ha), h2.2.2.2.2.trans h.2.2.2.2⟩
/-- a new object of kind c at z, then its constructor -/
theorem ZS.mk {L L2 : hL} {I I2 : Nat → Nat → Int32} {z x c : Nat} {f : Nat} {v : Option Nat} (hx : x < z) (hX : XT (va_up L.1 z c, L.2.1, wrow (wr L.2.2.1 x f v) z (fun _ => none), L.2.2.2) L2 (wrow I z (fun _ => 0)) I2 (z + 1) z) : ZS L L2 I I2 z x ∧ L2.1 z = c ∧ (∀ j, j ≠ f → L2.2.2.1 x j = L.2.2.1 x j) ∧ L2.2.2.1 x f = v := by
  obtain ⟨x1, x2, x3⟩ := hX
  dsimp only at x1 x2 x3
  refine ⟨⟨fun a ha => ?_, fun a ha => (x1 a (by omega)).2, fun a ha hn => ?_, fun a ha => ?_, x3⟩, ?_, fun j hj => ?_, ?_⟩
  · rw [(x1 a (by omega)).1]; exact upM (by omega)
  · rw [(x2 a (by omega) (by omega)).1]; show wrow _ z _ a = _; rw [wrowM (by omega), wrM1 hn]
  · rw [(x2 a (by omega) (by omega)).2]; exact wrowM (by omega)
  · rw [(x1 z (by omega)).1]; exact upH rfl
  · rw [(x2 x (by omega) (by omega)).1]; show wrow _ z _ x j = _; rw [wrowM (by omega), wrM2 hj]
  · rw [(x2 x (by omega) (by omega)).1]; show wrow _ z _ x f = _; rw [wrowM (by omega)]; exact wrH rfl rfl
def KX (L : hL) (x : Nat) : Prop :=
  (L.1 x = 9 ∧ L.2.2.1 x 0 = some (x + 1) ∧ L.2.2.1 x 1 = some (x + 28) ∧ L.2.2.1 x 2 = some (x + 55) ∧ L.2.2.1 x 3 = some (x + 57) ∧ L.2.2.1 x 4 = some (x + 58) ∧ L.2.2.1 x 5 = some (x + 268) ∧ L.2.2.1 x 6 = some (x + 56) ∧ L.2.2.1 x 9 = some (x + 270)) ∧
  (LR L (x + 1) ∧ LR L (x + 28)) ∧ LA L (x + 58) ∧
  (L.1 (x + 55) = 3 ∧ L.2.2.1 (x + 55) 0 = some (x + 28)) ∧
  (L.1 (x + 56) = 21 ∧ L.2.1 (x + 56) = 500 ∧ L.1 (x + 57) = 4 ∧ L.2.2.1 (x + 57) 0 = some (x + 56) ∧ L.2.2.1 (x + 57) 1 = some (x + 28 + 2)) ∧
  (L.1 (x + 268) = 6 ∧ L.2.2.1 (x + 268) 0 = some (x + 269) ∧ L.1 (x + 269) = 21 ∧ L.2.1 (x + 269) = 150 ∧ L.1 (x + 270) = 20 ∧ L.2.1 (x + 270) = 10)
end CTOR2
