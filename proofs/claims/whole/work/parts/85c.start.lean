/-! The keeper's and the model's constructors; the law's start. -/
section CTOR3
variable {L : hL} {I : Nat → Nat → Int32} {J : Nat → Nat → Int64} {l d x : Nat} {G : hp → Prop} {X : Nat → hp → Prop}
theorem sp_newDay {q r z l : Nat} {ex : Bool} (hq : L.1 q = 3) (k : ∀ L', XT L L' I I (q + 1) q → L'.2.2.1 q 0 = some r → G (L', I, J, z, l, ex)) : cal (d + 1) 8 [.ref q, .ref r] (L, I, J, z, l, ex) (kV G X) := by
  refine e8 (t8_0 ?_)
  simp only [hq, true_and, kVi]
  exact k _ ⟨fun a _ => ⟨rfl, rfl⟩, fun a _ hn => ⟨wrM1 hn, rfl⟩, rfl⟩ (wrH rfl rfl)
theorem sp_newReader {q b c z l : Nat} {ex : Bool} (hq : L.1 q = 4) (k : ∀ L', XT L L' I I (q + 1) q → L'.2.2.1 q 0 = some b → L'.2.2.1 q 1 = some c → G (L', I, J, z, l, ex)) : cal (d + 1) 9 [.ref q, .ref b, .ref c] (L, I, J, z, l, ex) (kV G X) := by
  refine e9 (t9_0 ?_)
  simp only [hq, true_and, kVi]
  exact k _ ⟨fun a _ => ⟨rfl, rfl⟩, fun a _ hn => ⟨by show wr (wr L.2.2.1 q 0 (some b)) q 1 (some c) a = _; rw [wrM1 hn, wrM1 hn], rfl⟩, rfl⟩ (by show wr (wr L.2.2.1 q 0 (some b)) q 1 (some c) q 0 = _; rw [wrM2 (by decide)]; exact wrH rfl rfl) (wrH rfl rfl)
theorem LA.xt {L L' : hL} {A : Nat} (h : LA L A) (h1 : ∀ a, A ≤ a → a < A + 210 → L'.1 a = L.1 a) (h2 : ∀ a, A ≤ a → a < A + 210 → L'.2.1 a = L.2.1 a) (h3 : ∀ a, A ≤ a → a < A + 210 → L'.2.2.1 a = L.2.2.1 a) : LA L' A := by
  refine ⟨?_, fun i hi => ⟨?_, ?_⟩⟩
  · simp (disch := omega) only [h1, h2, h3]
    exact h.1
  · rw [h3 _ (by omega) (by omega)]; exact (h.2 i hi).1
  · exact (h.2 i hi).2.xt (fun a q1 q2 => h1 a (by omega) (by omega)) (fun a q1 q2 => h2 a (by omega) (by omega)) (h3 _ (by omega) (by omega))
set_option maxHeartbeats 4000000 in
theorem sp_newKeeper (hx : L.1 x = 9) (hI0 : I x = fun _ => 0) (k : ∀ L' I' J' z' l', z' = x + 271 → KX L' x → (∀ a, a < x → L'.1 a = L.1 a ∧ L'.2.1 a = L.2.1 a ∧ I' a = I a) → L'.2.2.2 = L.2.2.2 → l' ≤ l + 20000 → (∃ S, New S (bd I' (x + 1 + 2))) → I' x 7 = nI 0 → I' x 8 = -1 → (∀ j, I' (x + 56) j = nI 0) → I' (x + 58) 1 = nI 0 → I' (x + 58) 2 = nI 0 → I' (x + 268) 1 = nI 0 → G (L', I', J', z', l', true)) : cal (d + 6) 0 [.ref x] (L, I, J, x + 1, l, true) (kV G X) := by
  refine e0 (t0_0 ?_)
  simp (disch := omega) only [upH, true_and]
  refine sp_newRunway (r := x + 1) (upH rfl) fun L1 I1 J1 hR1 ⟨p1, p2, p3⟩ ir1 hN1 => t0_12 ?_
  have z1 : ZS L L1 I I1 (x + 1) x := ⟨fun a ha => by rw [(p1 a (by omega)).1]; exact upM (by omega), fun a ha => (p1 a (by omega)).2, fun a ha hn => by rw [(p2 a (by omega) (by omega)).1]; exact wrowM (by omega), fun a ha => by rw [(p2 a (by omega) (by omega)).2]; exact wrowM (by omega), p3⟩
  have k1 : L1.1 x = 9 := by rw [z1.1 x (by omega)]; exact hx
  simp (disch := omega) only [k1, upH, true_and]
  refine sp_newRunway (r := x + 1 + 27) (upH rfl) fun L2 I2 J2 hR2 hX2 ir2 hN2 => t0_23 ?_
  obtain ⟨z2, kz2, fo2, fv2⟩ := ZS.mk (x := x) (f := 0) (z := x + 1 + 27) (by omega) hX2
  have k2 : L2.1 x = 9 := by rw [z2.1 x (by omega)]; exact k1
  simp (disch := omega) only [k2, upH, upM, wrowM, wrH, true_and, Option.some.injEq, exists_eq_left']
  refine sp_newDay (upH rfl) fun L3 hX3 fd3 => t0_38 ?_
  obtain ⟨z3, kz3, fo3, fv3⟩ := ZS.mk (x := x) (f := 1) (z := x + 1 + 27 + 27) (by omega) hX3
  generalize hI3 : wrow I2 (x + 1 + 27 + 27) (fun _ => (0 : Int32)) = I3 at z3
  have k3 : L3.1 x = 9 := by rw [z3.1 x (by omega)]; exact k2
  have r28 : L3.1 (x + 1 + 27) = 5 := by rw [z3.1 _ (by omega)]; exact hR2.1.1
  have r280 : L3.2.2.1 (x + 1 + 27) 0 = some (x + 1 + 27 + 2) := by rw [z3.2.2.1 _ (by omega) (by omega)]; exact hR2.1.2.1
  have fx31 : L3.2.2.1 x 1 = some (x + 1 + 27) := fv3
  simp (disch := omega) only [k3, upH, upM, wrowM, wrH, wrM1, wrM2, fx31, r28, r280, nI_ltI, nltF, nI_clamp, not_false_eq_true, nleT, true_and, Option.some.injEq, exists_eq_left']
  refine sp_newReader (upH rfl) fun L4 ⟨y1, y2, y3⟩ fr0 fr1 => t0_69 ?_
  have K4 : ∀ a, a < x + 56 → L4.1 a = L3.1 a := fun a ha => by rw [(y1 a (by omega)).1]; simp (disch := omega) only [upM]
  have N4 : ∀ a, a < x + 56 → L4.2.1 a = L3.2.1 a := fun a ha => by rw [(y1 a (by omega)).2]; simp (disch := omega) only [upM]
  have M4 : ∀ a, a < x + 56 → a ≠ x → L4.2.2.1 a = L3.2.2.1 a := fun a ha hn => by rw [(y2 a (by omega) (by omega)).1]; simp (disch := omega) only [wrM1, wrowM]
  have T4 : L4.1 (x + 56) = 21 ∧ L4.2.1 (x + 56) = 500 ∧ L4.1 (x + 57) = 4 := ⟨by rw [(y1 _ (by omega)).1]; simp (disch := omega) only [upH, upM], by rw [(y1 _ (by omega)).2]; simp (disch := omega) only [upH, upM], by rw [(y1 _ (by omega)).1]; simp (disch := omega) only [upH, upM]⟩
  have X4 : (∀ j, j ≠ 2 → j ≠ 6 → L4.2.2.1 x j = L3.2.2.1 x j) ∧ L4.2.2.1 x 2 = some (x + 55) ∧ L4.2.2.1 x 6 = some (x + 56) := by
    have e := (y2 x (by omega) (by omega)).1
    refine ⟨fun j h1 h2 => ?_, ?_, ?_⟩
    · rw [e]; simp (disch := omega) only [wrM1, wrM2, wrowM]
    · rw [e]; simp (disch := omega) only [wrM1, wrM2, wrH, wrowM]
    · rw [e]; simp (disch := omega) only [wrM1, wrM2, wrH, wrowM]
  have S4 : L4.2.2.2 = L3.2.2.2 := y3
  have k4 : L4.1 x = 9 := by rw [K4 x (by omega)]; exact k3
  simp (disch := omega) only [k4, upH, true_and]
  refine sp_newActs (upH rfl) fun L5 I5 J5 hA5 hX5 ia5 => t0_80 ?_
  obtain ⟨z5, kz5, fo5, fv5⟩ := ZS.mk (x := x) (f := 3) (by omega) hX5
  have k5 : L5.1 x = 9 := by rw [z5.1 x (by omega)]; exact k4
  simp (disch := omega) only [k5, upH, true_and]
  refine sp_newSaying (upH rfl) fun L6 I6 J6 hS6 hX6 is6 => t0_91 ?_
  obtain ⟨z6, kz6, fo6, fv6⟩ := ZS.mk (x := x) (f := 4) (by omega) hX6
  have k6 : L6.1 x = 9 := by rw [z6.1 x (by omega)]; exact k5
  simp (disch := omega) only [k6, upM, nI_ltI, nltF, nI_clamp, not_false_eq_true, nleT, true_and, kVi]
  -- from the stages to the end
  have q5 : ∀ a, a < x + 58 → L6.1 a = L4.1 a ∧ L6.2.1 a = L4.2.1 a ∧ (a ≠ x → L6.2.2.1 a = L4.2.2.1 a) := fun a ha => ⟨(z6.1 a (by omega)).trans (z5.1 a (by omega)), (z6.2.1 a (by omega)).trans (z5.2.1 a (by omega)), fun hn => (z6.2.2.1 a (by omega) hn).trans (z5.2.2.1 a (by omega) hn)⟩
  have q3 : ∀ a, a < x + 55 → L6.1 a = L2.1 a ∧ L6.2.1 a = L2.2.1 a ∧ (a ≠ x → L6.2.2.1 a = L2.2.2.1 a) := fun a ha => ⟨by rw [(q5 a (by omega)).1, K4 a (by omega), z3.1 a (by omega)], by rw [(q5 a (by omega)).2.1, N4 a (by omega), z3.2.1 a (by omega)], fun hn => by rw [(q5 a (by omega)).2.2 hn, M4 a (by omega) hn, z3.2.2.1 a (by omega) hn]⟩
  have q2 : ∀ a, a < x + 28 → L6.1 a = L1.1 a ∧ L6.2.1 a = L1.2.1 a ∧ (a ≠ x → L6.2.2.1 a = L1.2.2.1 a) := fun a ha => ⟨by rw [(q3 a (by omega)).1, z2.1 a (by omega)], by rw [(q3 a (by omega)).2.1, z2.2.1 a (by omega)], fun hn => by rw [(q3 a (by omega)).2.2 hn, z2.2.2.1 a (by omega) hn]⟩
  have i5 : ∀ a, a < x + 56 → I6 a = I2 a ∨ a = x + 55 := fun a ha => by
    by_cases q : a = x + 55
    · exact Or.inr q
    · refine Or.inl ?_
      rw [z6.2.2.2.1 a (by omega), z5.2.2.2.1 a (by omega)]
      simp (disch := omega) only [wrowM]
      exact z3.2.2.2.1 a (by omega)
  have i2 : ∀ a, a < x + 28 → I6 a = I1 a := fun a ha => by rw [(i5 a (by omega)).resolve_right (by omega), z2.2.2.2.1 a (by omega)]
  refine k _ _ _ _ _ ?_ ⟨⟨?_, ?_, ?_, ?_, ?_, ?_, ?_, ?_, ?_⟩, ⟨?_, ?_⟩, ?_, ⟨?_, ?_⟩, ⟨?_, ?_, ?_, ?_, ?_⟩, ⟨?_, ?_, ?_, ?_, ?_, ?_⟩⟩ (fun a ha => ⟨?_, ?_, ?_⟩) ?_ ?_ ?_ ?_ ?_ (fun j => ?_) ?_ ?_ ?_
  · omega
  · show va_up L6.1 _ 20 x = 9; rw [upM (by omega)]; exact k6
  · simp (disch := omega) only [wrM2, wrowM]; rw [fo6 0 (by decide), fo5 0 (by decide), X4.1 0 (by decide) (by decide), fo3 0 (by decide)]; exact fv2
  · simp (disch := omega) only [wrM2, wrowM]; rw [fo6 1 (by decide), fo5 1 (by decide), X4.1 1 (by decide) (by decide)]; exact fv3
  · simp (disch := omega) only [wrM2, wrowM]; rw [fo6 2 (by decide), fo5 2 (by decide)]; exact X4.2.1
  · simp (disch := omega) only [wrM2, wrowM]; rw [fo6 3 (by decide)]; exact fv5
  · simp (disch := omega) only [wrM2, wrowM]; exact fv6
  · simp (disch := omega) only [wrM2, wrowM, wrH]
  · simp (disch := omega) only [wrM2, wrowM]; rw [fo6 6 (by decide), fo5 6 (by decide)]; exact X4.2.2
  · simp (disch := omega) only [wrH]
  · refine LR.xt hR1 (fun a r1 r2 => ?_) (fun a r1 r2 => ?_) (fun a r1 r2 => ?_)
    · show va_up L6.1 _ 20 a = _; rw [upM (by omega)]; exact (q2 a (by omega)).1
    · show va_up L6.2.1 _ 10 a = _; rw [upM (by omega)]; exact (q2 a (by omega)).2.1
    · simp (disch := omega) only [wrM1, wrowM]; exact (q2 a (by omega)).2.2 (by omega)
  · refine LR.xt (r := x + 1 + 27) hR2 (fun a r1 r2 => ?_) (fun a r1 r2 => ?_) (fun a r1 r2 => ?_)
    · show va_up L6.1 _ 20 a = _; rw [upM (by omega)]; exact (q3 a (by omega)).1
    · show va_up L6.2.1 _ 10 a = _; rw [upM (by omega)]; exact (q3 a (by omega)).2.1
    · simp (disch := omega) only [wrM1, wrowM]; exact (q3 a (by omega)).2.2 (by omega)
  · refine LA.xt hA5 (fun a r1 r2 => ?_) (fun a r1 r2 => ?_) (fun a r1 r2 => ?_)
    · show va_up L6.1 _ 20 a = _; rw [upM (by omega)]; exact z6.1 a (by omega)
    · show va_up L6.2.1 _ 10 a = _; rw [upM (by omega)]; exact z6.2.1 a (by omega)
    · simp (disch := omega) only [wrM1, wrowM]; exact z6.2.2.1 a (by omega) (by omega)
  · show va_up L6.1 _ 20 (x + 55) = 3; rw [upM (by omega), (q5 _ (by omega)).1, K4 _ (by omega)]; exact kz3
  · simp (disch := omega) only [wrM1, wrowM]; rw [(q5 _ (by omega)).2.2 (by omega), M4 _ (by omega) (by omega)]; exact fd3
  · show va_up L6.1 _ 20 (x + 56) = 21; rw [upM (by omega), (q5 _ (by omega)).1]; exact T4.1
  · show va_up L6.2.1 _ 10 (x + 56) = 500; rw [upM (by omega), (q5 _ (by omega)).2.1]; exact T4.2.1
  · show va_up L6.1 _ 20 (x + 57) = 4; rw [upM (by omega), (q5 _ (by omega)).1]; exact T4.2.2
  · simp (disch := omega) only [wrM1, wrowM]; rw [(q5 _ (by omega)).2.2 (by omega)]; exact fr0
  · simp (disch := omega) only [wrM1, wrowM]; rw [(q5 _ (by omega)).2.2 (by omega)]; exact fr1
  · show va_up L6.1 _ 20 (x + 268) = 6; rw [upM (by omega)]; exact kz6
  · simp (disch := omega) only [wrM1, wrowM]; exact hS6.1
  · show va_up L6.1 _ 20 (x + 269) = 21; rw [upM (by omega)]; exact hS6.2.1
  · show va_up L6.2.1 _ 10 (x + 269) = 150; rw [upM (by omega)]; exact hS6.2.2
  · show va_up L6.1 _ 20 (x + 270) = 20; exact upH (by omega)
  · show va_up L6.2.1 _ 10 (x + 270) = 10; exact upH (by omega)
  · show va_up L6.1 _ 20 a = _; rw [upM (by omega), (q2 a (by omega)).1]; exact z1.1 a (by omega)
  · show va_up L6.2.1 _ 10 a = _; rw [upM (by omega), (q2 a (by omega)).2.1]; exact z1.2.1 a (by omega)
  · simp (disch := omega) only [wrM1, wrowM]; rw [i2 a (by omega)]; exact z1.2.2.2.1 a (by omega)
  · show L6.2.2.2 = _; rw [z6.2.2.2.2, z5.2.2.2.2, S4, z3.2.2.2.2, z2.2.2.2.2, z1.2.2.2.2]
  · omega
  · obtain ⟨S, hN1⟩ := hN1
    refine ⟨S, ?_⟩
    rw [bd_same (I := I1) (b := x + 1 + 2) fun a r1 r2 => by simp (disch := omega) only [wrM1, wrowM]; exact i2 a (by omega)]
    exact hN1
  · simp (disch := omega) only [wrM2, wrowM]; rw [i2 x (by omega), z1.2.2.2.1 x (by omega), hI0]; rfl
  · exact wrH rfl rfl
  · simp (disch := omega) only [wrM1, wrowM]; rw [z6.2.2.2.1 _ (by omega), z5.2.2.2.1 _ (by omega)]; simp (disch := omega) only [wrowM, wrowH]; rfl
  · simp (disch := omega) only [wrM1, wrowM]; rw [z6.2.2.2.1 _ (by omega)]; exact (congrFun ia5 1).trans (by simp (disch := omega) only [wrowH]; rfl)
  · simp (disch := omega) only [wrM1, wrowM]; rw [z6.2.2.2.1 _ (by omega)]; exact (congrFun ia5 2).trans (by simp (disch := omega) only [wrowH]; rfl)
  · simp (disch := omega) only [wrM1, wrowM]; exact (congrFun is6 1).trans (by simp (disch := omega) only [wrowH]; rfl)
end CTOR3
